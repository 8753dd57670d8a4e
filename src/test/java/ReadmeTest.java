import java.io.IOException;
import java.lang.reflect.Method;
import java.lang.reflect.Modifier;
import java.nio.file.DirectoryStream;
import java.nio.file.Files;
import java.nio.file.Path;
import java.util.Set;
import java.util.TreeSet;
import java.util.regex.Matcher;
import java.util.regex.Pattern;

/** README.md: the answers of its example, and that it tells of every method and of every test. */
public final class ReadmeTest {
    private static final Checks CHECKS = new Checks();
    private static final Path README = Path.of("README.md");
    private static final Path TESTS = Path.of("src/test/java");
    private static final int LEAST_CALLS = 20;

    public static void main(String[] args) throws IOException, ReflectiveOperationException {
        String text = Files.readString(README);
        example(text);
        methods(text);
        tests(text);
        CHECKS.end();
    }

    private static void example(String text) throws ReflectiveOperationException {
        TermOffice office = new TermOffice();
        Matcher call = Pattern.compile("(?m)^office\\.(\\w+)\\((.*)\\); +// (-?\\d+)\\b.*$").matcher(text);
        int calls = 0;
        while (call.find()) {
            calls++;
            CHECKS.due(call.group(), answer(office, call.group(1), call.group(2)), Long.parseLong(call.group(3)));
        }
        CHECKS.holds("enough calls in the example: " + calls, calls >= LEAST_CALLS);
        int lines = text.split("(?m)^office\\.", -1).length - 1;
        CHECKS.due("calls of the example that tell their answer", calls, lines);
    }

    private static long answer(TermOffice office, String name, String told) throws ReflectiveOperationException {
        String[] words = told.isEmpty() ? new String[0] : told.split(", ");
        Object[] values = new Object[words.length];
        Class<?>[] types = new Class<?>[words.length];
        for (int i = 0; i < words.length; i++) {
            values[i] = value(words[i]);
            types[i] = values[i] instanceof Boolean ? boolean.class : int.class;
        }
        return ((Number) TermOffice.class.getMethod(name, types).invoke(office, values)).longValue();
    }

    private static Object value(String word) {
        if (word.equals("true") || word.equals("false")) {
            return Boolean.valueOf(word);
        }
        return word.charAt(0) == '\'' ? (int) word.charAt(1) : Integer.parseInt(word);
    }

    private static void methods(String text) {
        for (Method method : TermOffice.class.getDeclaredMethods()) {
            if (Modifier.isPublic(method.getModifiers())) {
                CHECKS.holds("a row of README.md tells of " + method.getName(),
                    text.contains("\n| `" + method.getName() + "("));
            }
        }
    }

    private static void tests(String text) throws IOException {
        Set<String> told = new TreeSet<>();
        Matcher row = Pattern.compile("(?m)^\\| (\\w+Test) \\|").matcher(text);
        while (row.find()) {
            told.add(row.group(1));
        }
        Set<String> found = new TreeSet<>();
        try (DirectoryStream<Path> files = Files.newDirectoryStream(TESTS, "*Test.java")) {
            for (Path file : files) {
                found.add(file.getFileName().toString().replace(".java", ""));
            }
        }
        CHECKS.holds("tests told " + told + " are those found " + found, told.equals(found));
    }
}
