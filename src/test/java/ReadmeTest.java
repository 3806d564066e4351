import java.io.IOException;
import java.lang.reflect.Method;
import java.lang.reflect.Modifier;
import java.nio.file.DirectoryStream;
import java.nio.file.Files;
import java.nio.file.Path;
import java.util.regex.Matcher;
import java.util.regex.Pattern;

/** README.md: its example gives the answers that it tells, and no call and no test is left out. */
public final class ReadmeTest extends Checks {
    private static final Path README = Path.of("README.md");
    private static final Path TESTS = Path.of("src/test/java");
    private static final Pattern CALL = Pattern.compile("(?m)^desk\\.(\\w+)\\(([-0-9, ]*)\\);\\s*// ([-.\\w]+)");

    public static void main(String[] args) throws Exception {
        String text = Files.readString(README);
        about = "README.md";
        exampleAnswersAsTold(text);
        everyCallIsTold(text);
        everyTestIsTold(text);
        end();
    }

    private static void exampleAnswersAsTold(String text) throws Exception {
        RationalDesk desk = new RationalDesk();
        int lines = 0;
        Matcher call = CALL.matcher(text);
        while (call.find()) {
            lines++;
            Object answer = ask(desk, call.group(1), call.group(2));
            due(call.group() + " answered " + answer + ", is told", answer.equals(told(call.group(3))), true);
        }
        due("calls of the example that tell an answer", lines, text.split("(?m)^desk\\.", -1).length - 1);
        due("there is an example", lines > 0, true);
    }

    private static Object ask(RationalDesk desk, String name, String arguments) throws Exception {
        String[] texts = arguments.isBlank() ? new String[0] : arguments.split(", ");
        Object[] numbers = new Object[texts.length];
        for (int i = 0; i < texts.length; i++) {
            numbers[i] = Integer.valueOf(texts[i]);
        }
        return methodOf(name).invoke(desk, numbers);
    }

    private static Method methodOf(String name) throws NoSuchMethodException {
        for (Method method : RationalDesk.class.getDeclaredMethods()) {
            if (method.getName().equals(name)) {
                return method;
            }
        }
        throw new NoSuchMethodException(name);
    }

    private static Object told(String answer) throws Exception {
        if (answer.equals("true") || answer.equals("false")) {
            return Boolean.valueOf(answer);
        }
        String constant = "RationalDesk.";
        if (answer.startsWith(constant)) {
            return RationalDesk.class.getField(answer.substring(constant.length())).get(null);
        }
        return Integer.valueOf(answer);
    }

    private static void everyCallIsTold(String text) {
        for (Method method : RationalDesk.class.getDeclaredMethods()) {
            if (Modifier.isPublic(method.getModifiers())) {
                due("a row for " + method.getName(), text.contains("\n| `" + method.getName() + "("), true);
            }
        }
    }

    private static void everyTestIsTold(String text) throws IOException {
        int tests = 0;
        try (DirectoryStream<Path> files = Files.newDirectoryStream(TESTS, "*.java")) {
            for (Path file : files) {
                tests++;
                String name = TESTS + "/" + file.getFileName();
                due("a line for " + name, text.contains("`" + name + "`"), true);
            }
        }
        Matcher named = Pattern.compile("`" + TESTS + "/\\w+\\.java`").matcher(text);
        due("tests that are named", named.results().map(n -> n.group()).distinct().count(), tests);
    }
}
