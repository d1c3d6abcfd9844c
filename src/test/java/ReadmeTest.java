import java.io.IOException;
import java.lang.reflect.Method;
import java.lang.reflect.Modifier;
import java.nio.charset.StandardCharsets;
import java.nio.file.Files;
import java.nio.file.Path;
import java.util.regex.Matcher;
import java.util.regex.Pattern;

/** README.md: the example answers as it says, each call stands in the table, each test is named. */
public final class ReadmeTest extends Given {
    private static final Path TESTS = Path.of("src/test/java");
    private static final Pattern TYPED = Pattern.compile("for \\(char c : \"([^\"]*)\"");
    private static final Pattern ANSWERED = Pattern.compile("x\\.(\\w+)\\(([^)]*)\\); +// (-?\\d+):? .*");
    private static final Pattern ANY_CALL = Pattern.compile("(?m)^x\\.");

    public static void main(String[] args) throws IOException, ReflectiveOperationException {
        String readme = Files.readString(Path.of("README.md"), StandardCharsets.US_ASCII);
        example(readme);
        table(readme);
        tests(readme);
        check.end();
    }

    private static void example(String readme) throws ReflectiveOperationException {
        check.begin("README, the example");
        String code = readme.replaceAll("(?s).*```java\n(.*?)```.*", "$1");
        Matcher text = TYPED.matcher(code);
        due("texts that are typed", 1, text.results().count());
        text.reset();
        WaxInEars x = new WaxInEars();
        if (text.find()) {
            typed(x, text.group(1));
        }
        int answered = 0;
        Matcher line = ANSWERED.matcher(code);
        while (line.find()) {
            due(line.group(1) + "(" + line.group(2) + ")", Long.parseLong(line.group(3)),
                answerOf(x, line.group(1), line.group(2)));
            answered++;
        }
        due("calls with their answers", ANY_CALL.matcher(code).results().count(), answered);
    }

    private static long answerOf(WaxInEars x, String name, String told) throws ReflectiveOperationException {
        for (Method method : WaxInEars.class.getMethods()) {
            if (method.getName().equals(name)) {
                return ((Number) method.invoke(x, arguments(told))).longValue();
            }
        }
        throw new NoSuchMethodException(name);
    }

    private static Object[] arguments(String told) {
        String[] texts = told.isEmpty() ? new String[0] : told.split(", ");
        Object[] arguments = new Object[texts.length];
        for (int i = 0; i < texts.length; i++) {
            boolean isTruth = texts[i].equals("true") || texts[i].equals("false");
            arguments[i] = isTruth ? (Object) Boolean.valueOf(texts[i]) : (Object) Integer.valueOf(texts[i]);
        }
        return arguments;
    }

    private static void table(String readme) {
        check.begin("README, the table");
        for (Method method : WaxInEars.class.getDeclaredMethods()) {
            if (Modifier.isPublic(method.getModifiers())) {
                String words = "\\w+(, \\w+){" + Math.max(0, method.getParameterCount() - 1) + "}";
                String told = method.getParameterCount() == 0 ? "" : words;
                Pattern row = Pattern.compile("(?m)^\\| `" + method.getName() + "\\(" + told + "\\)` \\|");
                due("rows of " + method.getName(), 1, row.matcher(readme).results().count());
            }
        }
        constant(readme, "NONE` is ", WaxInEars.NONE);
        constant(readme, "UNKNOWN` ", WaxInEars.UNKNOWN);
        constant(readme, "OUTSIDE` ", WaxInEars.OUTSIDE);
        constant(readme, "STATE` ", WaxInEars.STATE);
        constant(readme, "FULL` ", WaxInEars.FULL);
    }

    private static void constant(String readme, String name, int number) {
        due("names of " + number, 1, readme.contains("`" + name + number) ? 1 : 0);
    }

    private static void tests(String readme) throws IOException {
        check.begin("README, the tests");
        due(".ci/run is named", 1, readme.contains(".ci/run") ? 1 : 0);
        try (var files = Files.newDirectoryStream(TESTS, "*.java")) {
            for (Path file : files) {
                due(file.getFileName() + " is named", 1, readme.contains(file.getFileName().toString()) ? 1 : 0);
            }
        }
    }
}
