import java.io.IOException;
import java.lang.reflect.Method;
import java.lang.reflect.Modifier;
import java.nio.file.DirectoryStream;
import java.nio.file.Files;
import java.nio.file.Path;
import java.util.Arrays;
import java.util.regex.Matcher;
import java.util.regex.Pattern;

/** README.md tells the truth: its example answers as it says, each call stands in its table, each test in the other. */
public final class ReadmeTest {
    private static final Pattern CALL = Pattern.compile("x\\.(\\w+)\\(([^)]*)\\); +// (-?\\d+)(:.*)?");
    private static final Pattern TABLE_CALL = Pattern.compile("`(\\w+)\\(([^)]*)\\)`");
    private static final Check check = new Check();

    public static void main(String[] args) throws IOException, ReflectiveOperationException {
        String text = Files.readString(Path.of("README.md"));
        example(text);
        table(text);
        tests(text);
        check.end();
    }

    private static void example(String text) throws ReflectiveOperationException {
        NetForms x = new NetForms();
        String block = text.substring(text.indexOf("```java"), text.indexOf("```\n"));
        for (String line : block.split("\n")) {
            if (line.startsWith("x.")) {
                Matcher call = CALL.matcher(line);
                check.due("the answer can be read in: " + line, call.matches() ? 1 : 0, 1);
                check.due(line, answer(x, call.group(1), call.group(2)), Long.parseLong(call.group(3)));
            }
        }
    }

    private static long answer(NetForms x, String name, String numbers) throws ReflectiveOperationException {
        Object[] values = Arrays.stream(numbers.split(", ")).filter(v -> !v.isEmpty()).map(Integer::valueOf).toArray();
        Class<?>[] types = new Class<?>[values.length];
        Arrays.fill(types, int.class);
        return ((Number) NetForms.class.getMethod(name, types).invoke(x, values)).longValue();
    }

    private static void table(String text) {
        for (Method m : NetForms.class.getDeclaredMethods()) {
            if (Modifier.isPublic(m.getModifiers())) {
                check.due("README.md tells of " + m.getName(), timesInTable(text, m), 1);
            }
        }
    }

    private static long timesInTable(String text, Method m) {
        return text.lines().filter(line -> line.startsWith("| `"))
            .flatMap(line -> TABLE_CALL.matcher(line.split("\\|")[1]).results())
            .filter(call -> call.group(1).equals(m.getName()) && countOf(call.group(2)) == m.getParameterCount()).count();
    }

    private static int countOf(String names) {
        return names.isEmpty() ? 0 : names.split(", ").length;
    }

    private static void tests(String text) throws IOException {
        try (DirectoryStream<Path> files = Files.newDirectoryStream(Path.of("src/test/java"), "*Test.java")) {
            for (Path file : files) {
                String name = file.getFileName().toString().replace(".java", "");
                check.due("README.md tells of " + name, text.contains("| `" + name + "` |") ? 1 : 0, 1);
            }
        }
    }
}
