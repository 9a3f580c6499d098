import java.io.ByteArrayOutputStream;
import java.io.IOException;
import java.io.PrintStream;
import java.lang.reflect.Method;
import java.lang.reflect.Modifier;
import java.net.URL;
import java.net.URLClassLoader;
import java.nio.file.Files;
import java.nio.file.Path;
import java.util.regex.Matcher;
import java.util.regex.Pattern;
import java.util.stream.Stream;
import javax.tools.ToolProvider;

/** README.md: its example is a program that prints what is said there, and every method is told of. */
public final class ReadmeExample {
    private static final Due due = new Due("ReadmeExample");
    private static final String PROGRAM = "src/main/java/HierShaper.java";

    /** The text between the first ```kind and the ``` that ends it. */
    private static String block(String readme, String kind) {
        Matcher found = Pattern.compile("(?s)```" + kind + "\n(.*?)```").matcher(readme);
        return found.find() ? found.group(1) : "";
    }

    private static void theExamplePrintsWhatIsSaid(String readme) throws IOException, ReflectiveOperationException {
        Path folder = Files.createTempDirectory("readme");
        try {
            Path example = Files.writeString(folder.resolve("Example.java"), block(readme, "java"));
            int failed = ToolProvider.getSystemJavaCompiler()
                    .run(null, null, null, "-d", folder.toString(), PROGRAM, example.toString());
            due.is("javac", failed, 0);
            if (failed == 0) {
                due.reads("what the example prints", outputOf(folder), block(readme, "text"));
            }
        } finally {
            remove(folder);
        }
    }

    private static String outputOf(Path classes) throws IOException, ReflectiveOperationException {
        PrintStream usual = System.out;
        ByteArrayOutputStream printed = new ByteArrayOutputStream();
        try (URLClassLoader loader = new URLClassLoader(new URL[] {classes.toUri().toURL()})) {
            System.setOut(new PrintStream(printed, true));
            loader.loadClass("Example").getMethod("main", String[].class).invoke(null, (Object) new String[0]);
        } finally {
            System.setOut(usual);
        }
        return printed.toString();
    }

    private static void remove(Path folder) throws IOException {
        try (Stream<Path> files = Files.list(folder)) {
            for (Path file : files.toList()) {
                Files.delete(file);
            }
        }
        Files.delete(folder);
    }

    private static void everyMethodIsToldOf(String readme) {
        due.holds("the constructor is told of", readme.contains("`new HierShaper(linkRate, queueLimit, depth)`"));
        for (Method method : HierShaper.class.getDeclaredMethods()) {
            if (Modifier.isPublic(method.getModifiers())) {
                due.holds(method.getName() + " is told of", readme.contains("| `" + method.getName() + "("));
            }
        }
    }

    private static void theCommandIsTold(String readme) {
        due.holds("the command that runs all tests is told", readme.contains("\n.ci/run\n"));
        due.holds("the command is there", Files.exists(Path.of(".ci/run")));
    }

    public static void main(String[] args) throws IOException, ReflectiveOperationException {
        String readme = Files.readString(Path.of("README.md"));
        theExamplePrintsWhatIsSaid(readme);
        everyMethodIsToldOf(readme);
        theCommandIsTold(readme);
        due.end();
    }
}
