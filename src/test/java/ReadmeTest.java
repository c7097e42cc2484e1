import java.lang.reflect.Method;
import java.nio.file.Files;
import java.nio.file.Path;
import java.util.regex.Matcher;
import java.util.regex.Pattern;

/** The example of README.md is gone through as it stands there: each line tells the answer of its last call. */
final class ReadmeTest {
    private static final Pattern EXAMPLE = Pattern.compile("(?s)```java\n(.*?)```");
    private static final Pattern CALL = Pattern.compile("x\\.(\\w+)\\(([^)]*)\\);");
    private static final Pattern TOLD = Pattern.compile("// (-?\\d+): ");

    private final Checks checks = new Checks();
    private final YamIsland x = new YamIsland();

    public static void main(String[] args) throws Exception {
        ReadmeTest test = new ReadmeTest();
        String readme = Files.readString(Path.of("README.md"));
        test.example(readme);
        test.names(readme);
        test.checks.end();
    }

    private void example(String readme) throws Exception {
        Matcher example = EXAMPLE.matcher(readme);
        checks.dueTrue("README.md has an example", example.find());
        String[] lines = example.group(1).split("\n");
        checks.dueTrue(lines[0] + " makes the object", lines[0].equals("YamIsland x = new YamIsland();"));
        for (int i = 1; i < lines.length; i++) {
            line(lines[i]);
        }
    }

    private void line(String line) throws Exception {
        Matcher told = TOLD.matcher(line);
        boolean tells = told.find();
        checks.dueTrue(line + " tells an answer", tells);
        Matcher call = CALL.matcher(line);
        long answer = Long.MIN_VALUE;
        while (call.find()) {
            answer = ask(call.group(1), call.group(2));
        }
        checks.due(line, answer, tells ? Long.parseLong(told.group(1)) : 0);
    }

    private int ask(String name, String numbers) throws Exception {
        for (Method method : YamIsland.class.getMethods()) {
            if (method.getName().equals(name)) {
                return (Integer) method.invoke(x, given(method.getParameterTypes(), numbers));
            }
        }
        throw new IllegalStateException("no call " + name);
    }

    private static Object[] given(Class<?>[] types, String numbers) {
        Object[] given = new Object[types.length];
        String[] parts = numbers.split(", ");
        for (int i = 0; i < types.length; i++) {
            long number = number(parts[i]);
            if (types[i] == long.class) {
                given[i] = number;
            } else {
                given[i] = (int) number;
            }
        }
        return given;
    }

    private static long number(String text) {
        if (text.startsWith("'")) {
            return text.charAt(1);
        }
        return text.startsWith("0b") ? Long.parseLong(text.substring(2).replace("_", ""), 2) : Long.parseLong(text);
    }

    private void names(String readme) {
        for (Method method : YamIsland.class.getDeclaredMethods()) {
            if (java.lang.reflect.Modifier.isPublic(method.getModifiers())) {
                String name = method.getName();
                checks.dueTrue("README.md names " + name, readme.contains("`" + name + "`"));
            }
        }
    }
}
