import java.lang.reflect.Constructor;
import java.lang.reflect.Field;
import java.lang.reflect.Method;
import java.lang.reflect.Modifier;
import java.nio.file.Files;
import java.nio.file.Path;
import java.util.ArrayList;
import java.util.HashMap;
import java.util.List;
import java.util.Map;
import java.util.Set;
import java.util.TreeSet;
import java.util.regex.Matcher;
import java.util.regex.Pattern;

/** The face of the class as the document has it, and such rules of LANGUAGE.md as can be seen in the text. */
public final class LanguageTest {
    private static final Path SOURCE = Path.of("src/main/java/FistTrains.java");
    private static final Path DOC = Path.of("../shared/DOC.md");
    private static final List<String> FORBIDDEN = List.of("throw", "throws", "try", "catch", "synchronized", "assert",
        "import", "package", "null", "this", "super", "hashCode", "toString", "Object", "System.out", "->", "::");

    private static final Set<String> LIBRARY = Set.of("Math.max", "Math.min", "System.arraycopy");
    /** A method's text goes from its head, four or eight blanks deep, to its closing brace. */
    private static final Pattern METHOD = Pattern.compile(
        "(?ms)^( {4}| {8})[^ }\\n][^\\n(]*?(\\w+)\\([^\\n]*\\) \\{$(.*?)^\\1\\}$");
    private static final Pattern CALL = Pattern.compile("\\b(\\w+)\\(");
    private static final int MOST_DEEP = 8;

    private static int wrong = 0;

    private static void due(String what, Object got, Object want) {
        if (!got.equals(want)) {
            wrong++;
            System.out.println(what + ": is " + got + ", due is " + want);
        }
    }

    public static void main(String[] args) throws Exception {
        face(Files.readString(DOC));
        membersInside();
        String code = Files.readString(SOURCE).replaceAll("(?s)/\\*.*?\\*/", "").replaceAll("//.*", "");
        words(code);
        library(code);
        lengths(code);
        depths(code);
        System.out.println(wrong == 0 ? "the language is kept" : wrong + " rules are broken");
        if (wrong > 0) {
            System.exit(1);
        }
    }

    private static void face(String doc) {
        Set<String> told = new TreeSet<>();
        Matcher m = Pattern.compile("public int (\\w+\\([^)]*\\));").matcher(doc);
        while (m.find()) {
            told.add(m.group(1).replaceAll("(int|long) \\w+", "$1").replace(" ", ""));
        }
        Set<String> stands = new TreeSet<>();
        Set<String> publicNames = new TreeSet<>();
        Set<String> privateNames = new TreeSet<>();
        for (Method method : FistTrains.class.getDeclaredMethods()) {
            due(method + " has at most 7 parameters", method.getParameterCount() <= 7, true);
            if (Modifier.isPublic(method.getModifiers())) {
                List<String> types = new ArrayList<>();
                for (Class<?> type : method.getParameterTypes()) {
                    types.add(type.getName());
                }
                stands.add(method.getName() + "(" + String.join(",", types) + ")");
                publicNames.add(method.getName());
                due(method + " answers", method.getReturnType().getName(), "int");
            } else {
                due(method + " is private", Modifier.isPrivate(method.getModifiers()), true);
                privateNames.add(method.getName());
            }
        }
        for (Class<?> inside : FistTrains.class.getDeclaredClasses()) {
            for (Method method : inside.getDeclaredMethods()) {
                due(method + " has at most 7 parameters", method.getParameterCount() <= 7, true);
                privateNames.add(method.getName());
            }
        }
        due("the public methods", stands, told);
        privateNames.retainAll(publicNames);
        due("private methods with public names", privateNames.toString(), "[]");
        due("the class is final", Modifier.isFinal(FistTrains.class.getModifiers()), true);
        Constructor<?>[] constructors = FistTrains.class.getDeclaredConstructors();
        due("constructors", constructors.length, 1);
        due("the constructor's parameters", constructors[0].getParameterCount(), 0);
    }

    private static void membersInside() {
        Set<String> open = new TreeSet<>();
        int own = 0;
        for (Field field : FistTrains.class.getDeclaredFields()) {
            if (Modifier.isPublic(field.getModifiers())) {
                open.add(field.getName());
            } else {
                due(field + " is private", Modifier.isPrivate(field.getModifiers()), true);
            }
            own += Modifier.isStatic(field.getModifiers()) ? 0 : 1;
            due(field + " is final, if static", !Modifier.isStatic(field.getModifiers())
                || Modifier.isFinal(field.getModifiers()), true);
        }
        due("the public constants", open.toString(), "[BAD, FULL, NONE, STATE]");
        due("at most 20 fields", own <= 20, true);
        due("at most 12 classes", FistTrains.class.getDeclaredClasses().length < 12, true);
        for (Class<?> inside : FistTrains.class.getDeclaredClasses()) {
            long fields = List.of(inside.getDeclaredFields()).stream().filter(f -> !Modifier.isStatic(f.getModifiers())).count();
            due(inside + " has at most 20 fields", fields <= 20, true);
            due(inside + " is static", Modifier.isStatic(inside.getModifiers()), true);
            due(inside + " is private", Modifier.isPrivate(inside.getModifiers()), true);
        }
    }

    private static void words(String code) {
        for (String word : FORBIDDEN) {
            String pattern = word.matches("\\w+") ? "\\b" + word + "\\b" : Pattern.quote(word);
            due("'" + word + "' stands in the text", Pattern.compile(pattern).matcher(code).find(), false);
        }
    }

    private static void library(String code) {
        Matcher m = Pattern.compile("\\b(Math|System|Integer|Long|String|Arrays)\\.\\w+").matcher(code);
        while (m.find()) {
            due(m.group() + " is looked through", LIBRARY.contains(m.group()), true);
        }
        due("signs beyond 127", code.chars().anyMatch(sign -> sign > 127), false);
    }

    private static void lengths(String code) {
        Matcher m = METHOD.matcher(code);
        int methods = 0;
        while (m.find()) {
            methods++;
            due("short: " + m.group(2), m.group().split("\n").length <= 60, true);
        }
        due("methods are found", methods > 100, true);
    }

    /** Methods of one name are taken as one, so that what is found is never too small. */
    private static void depths(String code) {
        Map<String, Set<String>> calls = new HashMap<>();
        Matcher m = METHOD.matcher(code);
        while (m.find()) {
            Set<String> called = calls.computeIfAbsent(m.group(2), name -> new TreeSet<>());
            CALL.matcher(m.group(3)).results().forEach(call -> called.add(call.group(1)));
        }
        for (String name : calls.keySet()) {
            due(name + " calls at most " + MOST_DEEP + " deep", depth(calls, name, 1) <= MOST_DEEP, true);
        }
    }

    /** Beyond the most it goes no deeper: so a method that calls itself is found, too. */
    private static int depth(Map<String, Set<String>> calls, String name, int level) {
        int deepest = level;
        for (String called : calls.get(name)) {
            if (level <= MOST_DEEP && calls.containsKey(called)) {
                deepest = Math.max(deepest, depth(calls, called, level + 1));
            }
        }
        return deepest;
    }
}
