import java.io.ByteArrayOutputStream;
import java.io.PrintStream;
import java.net.URL;
import java.net.URLClassLoader;
import java.nio.charset.StandardCharsets;
import java.nio.file.Files;
import java.nio.file.Path;
import java.util.List;
import javax.tools.ToolProvider;

/** README.md: its example compiles and prints what is said there, and it names every call and every test. */
public final class ReadmeTest {
    private static final Check CHECK = new Check();

    public static void main(String[] args) throws Exception {
        String readme = Files.readString(Path.of("README.md"));
        CHECK.due("the example", printed(block(readme, "java")), block(readme, "text"));
        for (java.lang.reflect.Method call : PageForm.class.getMethods()) {
            if (call.getDeclaringClass() == PageForm.class) {
                named(readme, "`" + call.getName() + "(");
            }
        }
        try (var tests = Files.newDirectoryStream(Path.of("src/test/java"), "*.java")) {
            for (Path test : tests) {
                named(readme, "`" + test.getFileName().toString().replaceFirst("(Test)?\\.java$", "$1"));
            }
        }
        CHECK.finish();
    }

    private static void named(String readme, String name) {
        CHECK.due("README.md names " + name, readme.contains(name), true);
    }

    /** What stands between the marks of the first block of a kind. */
    private static String block(String readme, String kind) {
        String begin = "```" + kind + "\n";
        int from = readme.indexOf(begin);
        int to = from < 0 ? -1 : readme.indexOf("```", from + begin.length());
        CHECK.due("README.md has a block of " + kind, to >= 0, true);
        return to < 0 ? "" : readme.substring(from + begin.length(), to);
    }

    private static String printed(String program) throws Exception {
        Path place = Files.createDirectories(Path.of("build", "readme"));
        Path file = Files.writeString(place.resolve("Example.java"), program);
        List<String> options = List.of("--release", "17", "-cp", System.getProperty("java.class.path"), "-d",
            place.toString(), file.toString());
        int failed = ToolProvider.getSystemJavaCompiler().run(null, null, null, options.toArray(new String[0]));
        if (failed != 0) {
            return "the example does not compile";
        }
        ByteArrayOutputStream all = new ByteArrayOutputStream();
        PrintStream before = System.out;
        System.setOut(new PrintStream(all, true, StandardCharsets.UTF_8));
        try (URLClassLoader loader = new URLClassLoader(new URL[] {place.toUri().toURL()})) {
            loader.loadClass("Example").getMethod("main", String[].class).invoke(null, (Object) new String[0]);
        } finally {
            System.setOut(before);
        }
        return all.toString(StandardCharsets.UTF_8).replace("\r\n", "\n");
    }
}
