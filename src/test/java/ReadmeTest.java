import java.io.ByteArrayOutputStream;
import java.io.IOException;
import java.io.PrintStream;
import java.lang.reflect.Method;
import java.lang.reflect.Modifier;
import java.net.URL;
import java.net.URLClassLoader;
import java.nio.file.Files;
import java.nio.file.Path;
import java.util.Comparator;
import java.util.List;
import java.util.stream.Stream;
import javax.tools.ToolProvider;

/** README.md tells the truth: its example prints what stands below it, and its table names every call. */
public final class ReadmeTest {
    private static final String HEAD = "public class Example { public static void main(String[] args) {\n";
    private static int wrong = 0;

    public static void main(String[] args) throws Exception {
        String readme = Files.readString(Path.of("README.md"));
        expect("what the example prints", printedBy(block(readme, "java")), block(readme, "text"));
        for (Method method : GuidedAligner.class.getDeclaredMethods()) {
            if (Modifier.isPublic(method.getModifiers())) {
                expect("a row of the table names " + method.getName(), "" + isInTable(readme, method.getName()), "true");
            }
        }
        System.out.println(wrong == 0 ? "README.md is as due" : wrong + " faults");
        if (wrong != 0) {
            System.exit(1);
        }
    }

    private static String block(String readme, String kind) {
        String mark = "```" + kind + "\n";
        int from = readme.indexOf(mark) + mark.length();
        return readme.substring(from, readme.indexOf("```", from));
    }

    private static boolean isInTable(String readme, String call) {
        return readme.lines().anyMatch(line -> line.startsWith("| `") && line.split("\\|")[1].contains("`" + call + "`"));
    }

    private static String printedBy(String example) throws Exception {
        Path folder = Files.createTempDirectory("readme");
        PrintStream screen = System.out;
        ByteArrayOutputStream printed = new ByteArrayOutputStream();
        try {
            Path file = Files.writeString(folder.resolve("Example.java"), HEAD + example + "}}\n");
            int code = ToolProvider.getSystemJavaCompiler().run(null, null, null,
                "-cp", System.getProperty("java.class.path"), "-d", folder.toString(), file.toString());
            expect("the example compiles", "" + code, "0");
            System.setOut(new PrintStream(printed, true));
            try (URLClassLoader loader = new URLClassLoader(new URL[] {folder.toUri().toURL()})) {
                loader.loadClass("Example").getMethod("main", String[].class).invoke(null, (Object) new String[0]);
            }
        } finally {
            System.setOut(screen);
            remove(folder);
        }
        return printed.toString().replace(System.lineSeparator(), "\n");
    }

    private static void remove(Path folder) throws IOException {
        try (Stream<Path> files = Files.walk(folder)) {
            List<Path> fromTheDeepest = files.sorted(Comparator.reverseOrder()).toList();
            for (Path file : fromTheDeepest) {
                Files.delete(file);
            }
        }
    }

    private static void expect(String what, String got, String want) {
        if (!got.equals(want)) {
            wrong++;
            System.out.println(what + ": got\n" + got + "\ndue is\n" + want);
        }
    }
}
