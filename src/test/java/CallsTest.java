import java.io.IOException;
import java.net.URL;
import java.net.URLClassLoader;
import java.nio.file.DirectoryStream;
import java.nio.file.Files;
import java.nio.file.Path;
import java.util.Map;
import java.util.TreeMap;
import java.util.regex.Matcher;
import java.util.regex.Pattern;
import javax.tools.ToolProvider;

/**
 * "An object is used for at most 512 calls; what later calls answer is free": no test of the project may ask for more,
 * or it would ask for what is not promised. The other tests are run once more beside a copy of the class that counts.
 */
public final class CallsTest {
    private static final int MOST_CALLS = 512;
    private static final int FACE = 26;
    private static final Pattern PUBLIC_METHOD = Pattern.compile("public (int|long) \\w+\\([^)]*\\) \\{");
    // What the class asks of itself is no call of a user.
    private static final String COUNTER = "private int asked; private static int most; private void countCall() {"
        + " boolean inside = StackWalker.getInstance().walk(s -> s.skip(2).findFirst()).get().getClassName().equals(\"NetForms\");"
        + " asked += inside ? 0 : 1; most = Math.max(most, asked); }";
    private static final Check check = new Check();

    public static void main(String[] args) throws IOException, ReflectiveOperationException {
        Path counted = makeCounted();
        for (Map.Entry<String, Integer> test : mostCalls(counted).entrySet()) {
            String name = test.getKey() + " asks an object " + test.getValue() + " times, which is within " + MOST_CALLS;
            check.due(name, test.getValue() <= MOST_CALLS ? 1 : 0, 1);
            check.due(test.getKey() + " asks at all", test.getValue() > 0 ? 1 : 0, 1);
        }
        check.end();
    }

    private static Path makeCounted() throws IOException {
        Matcher methods = PUBLIC_METHOD.matcher(Files.readString(Path.of("src/main/java/NetForms.java")));
        check.due("methods that are counted", methods.results().count(), FACE);
        String source = methods.replaceAll("$0 countCall();").replace("    public NetForms()", COUNTER + " public NetForms()");
        Path folder = Files.createDirectories(Path.of("build/counted"));
        Path file = Files.writeString(folder.resolve("NetForms.java"), source);
        int ended = ToolProvider.getSystemJavaCompiler().run(null, null, null, "-d", folder.toString(), file.toString());
        check.due("javac of the counting copy", ended, 0);
        return folder;
    }

    private static Map<String, Integer> mostCalls(Path counted) throws IOException, ReflectiveOperationException {
        Map<String, Integer> most = new TreeMap<>();
        try (DirectoryStream<Path> tests = Files.newDirectoryStream(Path.of("src/test/java"), "*Test.java")) {
            for (Path test : tests) {
                String name = test.getFileName().toString().replace(".java", "");
                // FaceTest looks at the class itself, which the copy is not.
                if (!name.equals("CallsTest") && !name.equals("FaceTest")) {
                    most.put(name, mostCallsOf(name, counted));
                }
            }
        }
        return most;
    }

    private static int mostCallsOf(String test, Path counted) throws IOException, ReflectiveOperationException {
        URL[] places = {counted.toUri().toURL(), CallsTest.class.getProtectionDomain().getCodeSource().getLocation()};
        try (URLClassLoader loader = new URLClassLoader(places, ClassLoader.getPlatformClassLoader())) {
            loader.loadClass(test).getMethod("main", String[].class).invoke(null, (Object) new String[0]);
            java.lang.reflect.Field most = loader.loadClass("NetForms").getDeclaredField("most");
            most.setAccessible(true);
            return most.getInt(null);
        }
    }
}
