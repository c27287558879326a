import java.io.IOException;
import java.lang.reflect.Constructor;
import java.lang.reflect.Field;
import java.lang.reflect.Method;
import java.lang.reflect.Modifier;
import java.util.regex.Matcher;
import java.util.regex.Pattern;

/** 'What it is' and 'The public face': every constant, constructor and method of it. */
public final class FaceTest extends Sentences {
    private static final String[] METHODS = {
        "row(int row, int lane, int n)", "set(int row, int i, int v)", "copy(int a, int i, int b, int j, int n)",
        "drop(int row)", "feed(long w, int n)", "hall()", "fault()", "bout(int a, int b)", "round()",
        "hand(int player, int hand)", "hands(int row)", "undo()", "player(int player, int what)",
        "beats(int a, int b, int what)", "left(int what)", "longest(int n, int what)", "begin(int player)",
        "seek(int player)", "fewest(int player, int k)", "begun(int player, int told)",
        "odds(int hand, int a, int b, int c, int what)", "gain(int a, int b, int c)", "image(int k)",
        "restore(int k)", "kind(int player)", "as(int player, int kind)", "ask(int player, int what)", "trace(int i)",
        "count(int what)", "status()",
    };
    private static final Pattern PARAMETER = Pattern.compile("(int|long) \\w+");

    public static void main(String[] args) throws IOException {
        section("What it is");
        sentence("An object is used for at most 512 calls after it has been made;", FaceTest::manyCalls);
        section("The public face");
        sentence("public final class FistTrains {", FaceTest::classIsFinal);
        sentence("public static final int NONE = -1000000, BAD = -1000001, STATE = -1000002, FULL = -1000003;",
            FaceTest::constants);
        sentence("public FistTrains();", FaceTest::constructor);
        for (String method : METHODS) {
            sentence("public int " + method + ";", () -> methodStands(method));
        }
        sentence("public int status(); }", FaceTest::nothingElse);
        runAll(Pattern.compile("The public face"));
    }

    /** The 512th call answers as the first ones do, of each sort that keeps something. */
    private static void manyCalls() {
        FistTrains acts = hallOf("steady0 boy1");
        for (int call = 6; call <= 511; call++) {
            due("hand, call " + call, acts.hand(0, call % 3), call == 6 ? 0 : (call - 1) % 3);
        }
        due("count(5), call 512", acts.count(5), 24);
        FistTrains halls = new FistTrains();
        for (int call = 1; call <= 511; call += 7) {
            due("hall, call " + (call + 6), read(halls, "player boy 0;player spy 1;player mirror 2;"), 3);
        }
        due("count(6), call 512", halls.count(6), 0);
        FistTrains asks = hallOf("spy1");
        for (int call = 4; call <= 511; call++) {
            due("ask, call " + call, asks.ask(0, 1), 198);
        }
        due("trace(4), call 512", asks.trace(4), 10);
        FistTrains foretold = hallOf("steady0 boy1 steady2 boy0 teacher1 teacher0 mirror2 spy0");
        for (int call = 18; call <= 511; call++) {
            due("fewest, call " + call, foretold.fewest(7, -1), 0);
        }
        due("left(0), call 512", foretold.left(0), 7);
    }

    private static void classIsFinal() {
        due("public", Modifier.isPublic(FistTrains.class.getModifiers()), true);
        due("final", Modifier.isFinal(FistTrains.class.getModifiers()), true);
    }

    private static void constants() {
        due("NONE", FistTrains.NONE, -1000000);
        due("BAD", FistTrains.BAD, -1000001);
        due("STATE", FistTrains.STATE, -1000002);
        due("FULL", FistTrains.FULL, -1000003);
        for (Field field : FistTrains.class.getFields()) {
            int modifiers = field.getModifiers();
            due(field + " is static, final, int", Modifier.isStatic(modifiers) && Modifier.isFinal(modifiers)
                && field.getType() == int.class, true);
        }
        due("how many there are", FistTrains.class.getFields().length, 4);
    }

    private static void constructor() {
        Constructor<?>[] all = FistTrains.class.getDeclaredConstructors();
        due("constructors", all.length, 1);
        due("parameters", all[0].getParameterCount(), 0);
        due("public", Modifier.isPublic(all[0].getModifiers()), true);
        due("a new one is another one", new FistTrains() == new FistTrains(), false);
    }

    private static void methodStands(String told) {
        String name = told.substring(0, told.indexOf('('));
        StringBuilder types = new StringBuilder();
        Matcher parameters = PARAMETER.matcher(told);
        while (parameters.find()) {
            types.append(parameters.group(1)).append(' ');
        }
        int found = 0;
        for (Method method : FistTrains.class.getDeclaredMethods()) {
            if (method.getName().equals(name)) {
                found++;
                StringBuilder has = new StringBuilder();
                for (Class<?> type : method.getParameterTypes()) {
                    has.append(type.getName()).append(' ');
                }
                due("parameters of " + name, has.toString(), types.toString());
                due("answer of " + name, method.getReturnType().getName(), "int");
                due("modifiers of " + name, Modifier.toString(method.getModifiers()), "public");
            }
        }
        due("methods named " + name, found, 1);
    }

    private static void nothingElse() {
        int open = 0;
        for (Method method : FistTrains.class.getDeclaredMethods()) {
            open += Modifier.isPrivate(method.getModifiers()) || method.isSynthetic() ? 0 : 1;
        }
        due("methods that are not private", open, METHODS.length);
        int fields = 0;
        for (Field field : FistTrains.class.getDeclaredFields()) {
            fields += Modifier.isPrivate(field.getModifiers()) || field.isSynthetic() ? 0 : 1;
        }
        due("fields that are not private", fields, 4);
        for (Class<?> inside : FistTrains.class.getDeclaredClasses()) {
            due(inside + " is open", Modifier.isPublic(inside.getModifiers()), false);
        }
    }
}
