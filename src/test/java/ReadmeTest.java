import java.io.IOException;
import java.lang.reflect.Method;
import java.lang.reflect.Modifier;
import java.net.URL;
import java.net.URLClassLoader;
import java.nio.charset.StandardCharsets;
import java.nio.file.Files;
import java.nio.file.Path;
import java.util.regex.Matcher;
import java.util.regex.Pattern;
import javax.tools.ToolProvider;

/** README.md tells of each call, and its example, compiled as it stands, answers as told behind each call. */
public final class ReadmeTest {
    private static final Pattern CALL = Pattern.compile("(?m)^(x\\.[^;]*);\\s*// (-?\\d+): .*$");
    private static final Pattern BLOCK = Pattern.compile("(?s)```java\n(.*?)```");

    private static int asked, wrong;

    public static void main(String[] args) throws Exception {
        String readme = Files.readString(Path.of("README.md"), StandardCharsets.UTF_8);
        Matcher block = BLOCK.matcher(readme);
        if (block.find()) run(block.group(1));
        for (Method m : RingPages.class.getDeclaredMethods()) {
            if (Modifier.isPublic(m.getModifiers()) && !readme.contains("`" + m.getName() + "(")) fault("no word of " + m.getName());
        }
        if (asked == 0) fault("no example");
        System.out.println(wrong == 0 ? "README.md is right in " + asked + " answers" : wrong + " faults of README.md");
        if (wrong != 0) System.exit(1);
    }

    /** Called by the example for each call that has an answer behind it. */
    public static void due(String call, long got, long want) {
        asked++;
        if (got != want) fault(call + " answered " + got + ", README.md tells " + want);
    }

    private static void fault(String what) {
        wrong++;
        System.out.println(what);
    }

    private static void run(String block) throws Exception {
        String body = CALL.matcher(block).replaceAll("ReadmeTest.due(\"$1\", $1, $2L);");
        Path made = Files.createTempDirectory("readme");
        Path file = made.resolve("Example.java");
        try {
            Files.writeString(file, "public class Example { public static void main(String[] args) {\n" + body + "} }\n");
            String path = System.getProperty("java.class.path");
            int refused = ToolProvider.getSystemJavaCompiler().run(null, null, null, "-cp", path, "-d", made.toString(), file.toString());
            if (refused != 0) fault("the example does not compile");
            else call(made);
        } finally {
            for (String name : new String[] {"Example.java", "Example.class", ""}) Files.deleteIfExists(made.resolve(name));
        }
    }

    private static void call(Path made) throws IOException, ReflectiveOperationException {
        try (URLClassLoader loader = new URLClassLoader(new URL[] {made.toUri().toURL()}, ReadmeTest.class.getClassLoader())) {
            loader.loadClass("Example").getMethod("main", String[].class).invoke(null, (Object) new String[0]);
        }
    }
}
