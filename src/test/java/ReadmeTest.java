import java.io.ByteArrayOutputStream;
import java.io.IOException;
import java.io.PrintStream;
import java.lang.reflect.Method;
import java.lang.reflect.Modifier;
import java.net.URL;
import java.net.URLClassLoader;
import java.nio.charset.StandardCharsets;
import java.nio.file.DirectoryStream;
import java.nio.file.Files;
import java.nio.file.Path;
import java.util.Comparator;
import java.util.List;
import java.util.stream.Collectors;
import java.util.stream.Stream;
import javax.tools.ToolProvider;

/** README.md: its example prints what it says, and it names every call of the class and every test. */
public final class ReadmeTest {
    private static final Path PAGE = Path.of("README.md");
    private static final Path PROGRAM = Path.of("src/main/java/WellMap.java");
    private static final Path TESTS = Path.of("src/test/java");

    private static int wrong = 0;

    private static void fault(String what) {
        wrong++;
        System.out.println(what);
    }

    /** The first block of the page that begins with ``` and the word given. */
    private static String block(String page, String word) {
        String begin = "```" + word + "\n";
        int from = page.indexOf(begin);
        int to = from < 0 ? -1 : page.indexOf("```", from + begin.length());
        if (to < 0) {
            fault("no block of " + word);
            return "";
        }
        return page.substring(from + begin.length(), to);
    }

    private static String printed(String example, Path folder) throws Exception {
        Path source = folder.resolve("Example.java");
        Files.writeString(source, example);
        int code = ToolProvider.getSystemJavaCompiler().run(null, null, null,
                "-d", folder.toString(), PROGRAM.toString(), source.toString());
        if (code != 0) return "not compiled";
        ByteArrayOutputStream bytes = new ByteArrayOutputStream();
        PrintStream before = System.out;
        // No parent with the project's classes: the example must do with what the page says is compiled.
        try (URLClassLoader loader = new URLClassLoader(new URL[] {folder.toUri().toURL()}, ClassLoader.getPlatformClassLoader())) {
            System.setOut(new PrintStream(bytes, true, StandardCharsets.UTF_8));
            Method main = loader.loadClass("Example").getMethod("main", String[].class);
            main.invoke(null, (Object) new String[0]);
        } finally {
            System.setOut(before);
        }
        return bytes.toString(StandardCharsets.UTF_8).replace("\r\n", "\n");
    }

    private static void removeAll(Path folder) throws IOException {
        List<Path> all;
        try (Stream<Path> found = Files.walk(folder)) {
            all = found.sorted(Comparator.reverseOrder()).collect(Collectors.toList());
        }
        for (Path one : all) Files.delete(one);
    }

    private static void exampleHolds(String page) throws Exception {
        Path folder = Files.createTempDirectory("readme");
        try {
            String want = block(page, "text");
            String got = printed(block(page, "java"), folder);
            if (!got.equals(want)) fault("the example prints\n" + got + "but the page says\n" + want);
        } finally {
            removeAll(folder);
        }
    }

    private static void namesAll(String page) throws IOException {
        for (Method m : WellMap.class.getDeclaredMethods()) {
            boolean named = page.contains("`" + m.getName() + "`");
            if (Modifier.isPublic(m.getModifiers()) && !named) fault("the page does not name the call " + m.getName());
        }
        try (DirectoryStream<Path> tests = Files.newDirectoryStream(TESTS, "*Test.java")) {
            for (Path test : tests) {
                String name = test.getFileName().toString().replace(".java", "");
                if (!page.contains("`" + name + "`")) fault("the page does not name the test " + name);
            }
        }
    }

    public static void main(String[] args) throws Exception {
        String page = Files.readString(PAGE).replace("\r\n", "\n");
        exampleHolds(page);
        namesAll(page);
        System.out.println(wrong == 0 ? "the page says what is so" : wrong + " faults");
        if (wrong != 0) System.exit(1);
    }
}
