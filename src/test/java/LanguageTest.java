import java.lang.reflect.Constructor;
import java.lang.reflect.Field;
import java.lang.reflect.Method;
import java.lang.reflect.Modifier;
import java.nio.file.Files;
import java.nio.file.Path;
import java.util.ArrayList;
import java.util.List;
import java.util.Set;
import java.util.TreeSet;
import java.util.regex.Matcher;
import java.util.regex.Pattern;

/** The face of the class as the document has it, and such rules of LANGUAGE.md as can be seen in the text. */
public final class LanguageTest {
    private static final Path SOURCE = Path.of("src/main/java/FistTrains.java");
    private static final Path DOC = Path.of("../shared/DOC.md");
    private static final List<String> FORBIDDEN = List.of("throw", "throws", "try", "catch", "synchronized", "assert",
        "import", "package", "null", "this", "super", "hashCode", "toString", "Object", "System.out", "->", "::");

    private static int wrong = 0;

    private static void due(String what, Object got, Object want) {
        if (!got.equals(want)) {
            wrong++;
            System.out.println(what + ": is " + got + ", due is " + want);
        }
    }

    public static void main(String[] args) throws Exception {
        face(Files.readString(DOC));
        membersInside();
        String code = Files.readString(SOURCE).replaceAll("(?s)/\\*.*?\\*/", "").replaceAll("//.*", "");
        words(code);
        lengths(code);
        System.out.println(wrong == 0 ? "the language is kept" : wrong + " rules are broken");
        if (wrong > 0) {
            System.exit(1);
        }
    }

    private static void face(String doc) {
        Set<String> told = new TreeSet<>();
        Matcher m = Pattern.compile("public int (\\w+\\([^)]*\\));").matcher(doc);
        while (m.find()) {
            told.add(m.group(1).replaceAll("(int|long) \\w+", "$1").replace(" ", ""));
        }
        Set<String> stands = new TreeSet<>();
        Set<String> publicNames = new TreeSet<>();
        Set<String> privateNames = new TreeSet<>();
        for (Method method : FistTrains.class.getDeclaredMethods()) {
            if (Modifier.isPublic(method.getModifiers())) {
                List<String> types = new ArrayList<>();
                for (Class<?> type : method.getParameterTypes()) {
                    types.add(type.getName());
                }
                stands.add(method.getName() + "(" + String.join(",", types) + ")");
                publicNames.add(method.getName());
                due(method + " answers", method.getReturnType().getName(), "int");
            } else {
                due(method + " is private", Modifier.isPrivate(method.getModifiers()), true);
                privateNames.add(method.getName());
            }
        }
        for (Class<?> inside : FistTrains.class.getDeclaredClasses()) {
            for (Method method : inside.getDeclaredMethods()) {
                privateNames.add(method.getName());
            }
        }
        due("the public methods", stands, told);
        privateNames.retainAll(publicNames);
        due("private methods with public names", privateNames.toString(), "[]");
        due("the class is final", Modifier.isFinal(FistTrains.class.getModifiers()), true);
        Constructor<?>[] constructors = FistTrains.class.getDeclaredConstructors();
        due("constructors", constructors.length, 1);
        due("the constructor's parameters", constructors[0].getParameterCount(), 0);
    }

    private static void membersInside() {
        Set<String> open = new TreeSet<>();
        int own = 0;
        for (Field field : FistTrains.class.getDeclaredFields()) {
            if (Modifier.isPublic(field.getModifiers())) {
                open.add(field.getName());
            } else {
                due(field + " is private", Modifier.isPrivate(field.getModifiers()), true);
            }
            own += Modifier.isStatic(field.getModifiers()) ? 0 : 1;
            due(field + " is final, if static", !Modifier.isStatic(field.getModifiers())
                || Modifier.isFinal(field.getModifiers()), true);
        }
        due("the public constants", open.toString(), "[BAD, FULL, NONE, STATE]");
        due("at most 20 fields", own <= 20, true);
        due("at most 12 classes", FistTrains.class.getDeclaredClasses().length < 12, true);
        for (Class<?> inside : FistTrains.class.getDeclaredClasses()) {
            due(inside + " is static", Modifier.isStatic(inside.getModifiers()), true);
            due(inside + " is private", Modifier.isPrivate(inside.getModifiers()), true);
        }
    }

    private static void words(String code) {
        for (String word : FORBIDDEN) {
            String pattern = word.matches("\\w+") ? "\\b" + word + "\\b" : Pattern.quote(word);
            due("'" + word + "' stands in the text", Pattern.compile(pattern).matcher(code).find(), false);
        }
    }

    /** A method's text goes from its head, four or eight blanks deep, to its closing brace. */
    private static void lengths(String code) {
        Matcher m = Pattern.compile("(?ms)^( {4}| {8})[^ }\\n][^\\n]*\\) \\{$.*?^\\1\\}$").matcher(code);
        int methods = 0;
        while (m.find()) {
            methods++;
            due("short: " + m.group().split("\n")[0].trim(), m.group().split("\n").length <= 60, true);
        }
        due("methods are found", methods > 100, true);
    }
}
