import java.io.ByteArrayOutputStream;
import java.io.IOException;
import java.io.PrintStream;
import java.lang.reflect.Method;
import java.lang.reflect.Modifier;
import java.net.URL;
import java.net.URLClassLoader;
import java.nio.charset.StandardCharsets;
import java.nio.file.Files;
import java.nio.file.Path;
import javax.tools.ToolProvider;

/** The program that README.md shows prints what README.md says, and no call of the class is left out there. */
final class ReadmeTest {

    private static final Path FOLDER = Path.of("build/readme");

    private ReadmeTest() {
    }

    public static void main(String[] args) throws Exception {
        String readme = Files.readString(Path.of("README.md"), StandardCharsets.UTF_8);
        Check.gives("javac of the program", 0, () -> compile(block(readme, "java")));
        Check.compare("the program", block(readme, "text"), printed());
        everyCall(readme);
        Check.end();
    }

    /** The text of the first block of this kind; empty if there is none. */
    private static String block(String readme, String kind) {
        String opening = "```" + kind + "\n";
        int from = readme.indexOf(opening);
        int to = readme.indexOf("```\n", from + opening.length());
        return from < 0 || to < 0 ? "" : readme.substring(from + opening.length(), to);
    }

    private static int compile(String program) {
        try {
            Path file = Files.createDirectories(FOLDER).resolve("Shop.java");
            Files.writeString(file, program, StandardCharsets.UTF_8);
            return ToolProvider.getSystemJavaCompiler().run(null, null, null, "-Xlint:all", "-Werror", "-cp",
                System.getProperty("java.class.path"), "-d", FOLDER.toString(), file.toString());
        } catch (IOException e) {
            System.out.println(e);
            return -1;
        }
    }

    private static String printed() throws Exception {
        PrintStream out = System.out;
        ByteArrayOutputStream bytes = new ByteArrayOutputStream();
        try (URLClassLoader loader = new URLClassLoader(new URL[] {FOLDER.toUri().toURL()})) {
            Method main = loader.loadClass("Shop").getMethod("main", String[].class);
            System.setOut(new PrintStream(bytes, true, StandardCharsets.UTF_8));
            main.invoke(null, (Object) new String[0]);
        } finally {
            System.setOut(out);
        }
        return bytes.toString(StandardCharsets.UTF_8).replace("\r\n", "\n");
    }

    private static void everyCall(String readme) {
        for (Method m : WornDots.class.getDeclaredMethods()) {
            if (Modifier.isPublic(m.getModifiers())) {
                String call = "`" + m.getName() + "(";
                Check.compare("README.md has " + call, "true", Boolean.toString(readme.contains(call)));
            }
        }
    }
}
