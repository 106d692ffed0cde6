import java.io.IOException;
import java.lang.reflect.InvocationTargetException;
import java.lang.reflect.Method;
import java.lang.reflect.Modifier;
import java.net.URL;
import java.net.URLClassLoader;
import java.nio.file.Files;
import java.nio.file.Path;
import java.util.regex.Matcher;
import java.util.regex.Pattern;
import javax.tools.ToolProvider;

/** What README.md shows: its java blocks, one behind the other, answer as they say. */
public final class ReadmeTest {
    private static final Checks C = new Checks();
    private static final Pattern BLOCK = Pattern.compile("(?s)```java\n(.*?)```");
    private static final Pattern ANSWERED =
            Pattern.compile("(?m)^ *(town\\.\\w+\\(.*\\));  +// (-?\\d+)\\b.*$");
    private static final Pattern NOT_ANSWERED = Pattern.compile("(?m)^town\\.");

    public static void main(String[] args) throws Exception {
        String blocks = blocksOf(Files.readString(Path.of("README.md")));
        C.about("README.md");
        C.due("each call has its answer behind it", 0,
                NOT_ANSWERED.matcher(checked(blocks)).find() ? 1 : 0);
        eachCallIsShown(blocks);
        run(checked(blocks));
        C.end();
    }

    /** Called by the compiled blocks. */
    public static void due(String call, long want, long got) {
        C.due(call, want, got);
    }

    private static void eachCallIsShown(String blocks) {
        for (Method m : HalfOfItFalse.class.getDeclaredMethods()) {
            if (Modifier.isPublic(m.getModifiers())) {
                C.due(m.getName() + " is shown", 1,
                        blocks.contains("town." + m.getName() + "(") ? 1 : 0);
            }
        }
    }

    private static String blocksOf(String text) {
        StringBuilder blocks = new StringBuilder();
        for (Matcher m = BLOCK.matcher(text); m.find();) {
            blocks.append(m.group(1));
        }
        return blocks.toString();
    }

    /** Each call with an answer behind it becomes a check. */
    private static String checked(String blocks) {
        return ANSWERED.matcher(blocks).replaceAll("ReadmeTest.due(\"$1\", $2, $1);");
    }

    private static void run(String code) throws IOException, ReflectiveOperationException {
        Path folder = Files.createTempDirectory("readme");
        Path source = folder.resolve("ReadmeBlocks.java");
        Files.writeString(source, "public final class ReadmeBlocks {\n"
                + "public static void main(String[] args) {\n" + code + "}\n}\n");
        int no = ToolProvider.getSystemJavaCompiler().run(null, null, null, "-cp",
                System.getProperty("java.class.path"), "-d", folder.toString(), source.toString());
        C.due("compiled", 0, no);
        if (no == 0) {
            try (URLClassLoader loader = new URLClassLoader(new URL[] {folder.toUri().toURL()})) {
                loader.loadClass("ReadmeBlocks").getMethod("main", String[].class)
                        .invoke(null, (Object) new String[0]);
            } catch (InvocationTargetException e) {
                C.due("thrown: " + e.getCause(), 0, 1);
            }
        }
        Files.deleteIfExists(folder.resolve("ReadmeBlocks.class"));
        Files.deleteIfExists(source);
        Files.deleteIfExists(folder);
    }
}
