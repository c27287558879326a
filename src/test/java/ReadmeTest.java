import java.lang.reflect.Field;
import java.lang.reflect.Method;
import java.lang.reflect.Modifier;
import java.nio.file.Files;
import java.nio.file.Path;
import java.util.regex.Matcher;
import java.util.regex.Pattern;

/** What README.md tells of the class: the answers behind the calls of its example, all calls, all constants. */
public final class ReadmeTest {
    private static final Pattern EXAMPLE = Pattern.compile("(?ms)^```java\\n(FistTrains .*?)^```$");
    private static final Pattern TEXT = Pattern.compile("for \\(char sign : \"([^\"]*)\"\\.toCharArray\\(\\)\\)");
    private static final Pattern CALL = Pattern.compile("fists\\.(\\w+)\\(([-\\d, ]*)\\); *// (-?\\d+)\\b");

    private static int wrong = 0;

    private static void due(String what, Object got, Object want) {
        if (!want.equals(got)) {
            wrong++;
            System.out.println(what + ": is " + got + ", due is " + want);
        }
    }

    public static void main(String[] args) throws Exception {
        String readme = Files.readString(Path.of("README.md"));
        example(readme);
        namesStand(readme);
        System.out.println(wrong == 0 ? "README.md is as due" : wrong + " lines of README.md are wrong");
        if (wrong > 0) {
            System.exit(1);
        }
    }

    private static void example(String readme) throws Exception {
        Matcher block = EXAMPLE.matcher(readme);
        due("the example stands", block.find(), true);
        String example = block.group(1);
        Matcher text = TEXT.matcher(example);
        due("the example has a text", text.find(), true);
        FistTrains fists = new FistTrains();
        for (char sign : text.group(1).toCharArray()) {
            fists.feed(sign, 1);
        }
        long lines = example.lines().filter(line -> line.startsWith("fists.")).count();
        Matcher call = CALL.matcher(example);
        int calls = 0;
        while (call.find()) {
            calls++;
            due(call.group(), answerOf(fists, call.group(1), call.group(2)), Integer.parseInt(call.group(3)));
        }
        due("calls with an answer", (long) calls, lines);
        due("there are calls", calls > 5, true);
    }

    private static Object answerOf(FistTrains fists, String name, String numbers) throws Exception {
        String[] told = numbers.isEmpty() ? new String[0] : numbers.split(", *");
        Object[] arguments = new Object[told.length];
        Class<?>[] types = new Class<?>[told.length];
        for (int i = 0; i < told.length; i++) {
            arguments[i] = Integer.valueOf(told[i]);
            types[i] = int.class;
        }
        return FistTrains.class.getMethod(name, types).invoke(fists, arguments);
    }

    private static void namesStand(String readme) throws Exception {
        for (Method method : FistTrains.class.getDeclaredMethods()) {
            if (Modifier.isPublic(method.getModifiers())) {
                due("`" + method.getName() + "` stands", readme.contains("`" + method.getName() + "`"), true);
            }
        }
        for (Field field : FistTrains.class.getDeclaredFields()) {
            if (Modifier.isPublic(field.getModifiers())) {
                String told = "`" + field.getName() + "` (" + field.getInt(FistTrains.class) + ")";
                due(told + " stands", readme.contains(told), true);
            }
        }
    }
}
