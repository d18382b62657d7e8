import java.io.IOException;
import java.lang.reflect.Method;
import java.lang.reflect.Modifier;
import java.nio.file.Files;
import java.nio.file.Path;
import java.util.regex.Matcher;
import java.util.regex.Pattern;

/** What README.md says: each line of its example answers the number behind it; each call and constant is named. */
public final class ReadmeTests {
    private static final Pattern CALL = Pattern.compile("x\\.(\\w+)\\(([^)]*)\\);");
    private static final Pattern ANSWER = Pattern.compile("// (-?\\d+)");
    private static final int LEAST_LINES = 20;

    private static int wrong = 0;

    public static void main(String[] args) throws IOException, ReflectiveOperationException {
        String text = Files.readString(Path.of("README.md"));
        example(text);
        names(text);
        tests(text);
        System.out.println(wrong == 0 ? "README.md is right" : wrong + " lines of README.md are wrong");
        if (wrong != 0) System.exit(1);
    }

    private static void hold(boolean holds, String what) {
        if (holds) return;
        wrong++;
        System.out.println("README.md: " + what);
    }

    private static void example(String text) throws ReflectiveOperationException {
        Matcher block = Pattern.compile("(?s)```java\n(.*?)```").matcher(text);
        hold(block.find(), "there is no example");
        EggOrder x = new EggOrder();
        int lines = 0;
        for (String line : block.group(1).split("\n")) {
            Matcher call = CALL.matcher(line);
            if (!call.find()) continue;
            long got = answer(x, call);
            while (call.find()) got = answer(x, call);
            Matcher want = ANSWER.matcher(line);
            hold(want.find() && Long.parseLong(want.group(1)) == got, "answered " + got + ": " + line);
            lines++;
        }
        hold(lines >= LEAST_LINES, "only " + lines + " lines of the example were found");
    }

    private static long answer(EggOrder x, Matcher call) throws ReflectiveOperationException {
        for (Method method : EggOrder.class.getMethods()) {
            if (!method.getName().equals(call.group(1))) continue;
            String[] told = call.group(2).isEmpty() ? new String[0] : call.group(2).split(", ");
            Object[] arguments = new Object[told.length];
            for (int i = 0; i < told.length; i++) arguments[i] = argument(told[i]);
            return ((Number) method.invoke(x, arguments)).longValue();
        }
        hold(false, "there is no call " + call.group(1));
        return 0;
    }

    private static Object argument(String told) {
        if (told.equals("true") || told.equals("false")) return told.equals("true");
        return told.charAt(0) == '\'' ? told.charAt(1) : Integer.parseInt(told);
    }

    private static void names(String text) {
        for (Method method : EggOrder.class.getDeclaredMethods()) {
            if (!Modifier.isPublic(method.getModifiers())) continue;
            hold(text.contains("`" + method.getName() + "("), "the call " + method.getName() + " is not named");
        }
        for (var field : EggOrder.class.getFields()) {
            hold(text.contains("`" + field.getName() + "`"), "the constant " + field.getName() + " is not named");
        }
    }

    private static void tests(String text) throws IOException {
        try (var files = Files.list(Path.of("src/test/java"))) {
            for (Path file : (Iterable<Path>) files::iterator) {
                String name = file.getFileName().toString().replace(".java", "");
                hold(text.contains("- `" + name + "`"), "the test " + name + " is not named");
            }
        }
    }
}
