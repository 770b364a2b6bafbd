import java.io.ByteArrayOutputStream;
import java.io.IOException;
import java.io.PrintStream;
import java.lang.reflect.Method;
import java.lang.reflect.Modifier;
import java.net.URL;
import java.net.URLClassLoader;
import java.nio.charset.StandardCharsets;
import java.nio.file.DirectoryStream;
import java.nio.file.Files;
import java.nio.file.Path;
import java.util.regex.Matcher;
import java.util.regex.Pattern;
import javax.tools.JavaCompiler;
import javax.tools.ToolProvider;

/** README.md holds: its example prints what it says, and it names every call and every test. Run from the root. */
public final class ReadmeTest {
    private static final Check CHECK = new Check();
    private static final Path TESTS = Path.of("src/test/java");

    public static void main(String[] args) throws Exception {
        String readme = Files.readString(Path.of("README.md"));
        String source = block(readme, "java");
        String prints = block(readme, "text");
        CHECK.that(!source.isEmpty() && !prints.isEmpty(), "README.md has an example and what it prints");
        String printed = printedBy(source);
        CHECK.that(printed.equals(prints), "the example prints what README.md says; it prints\n" + printed);
        namesCalls(readme);
        namesTests(readme);
        commandsFindTheirFiles(readme);
        CHECK.end();
    }

    /** The first block of the language; empty when there is none. */
    private static String block(String text, String language) {
        Matcher m = Pattern.compile("(?ms)^```" + language + "\\n(.*?)^```$").matcher(text);
        return m.find() ? m.group(1) : "";
    }

    private static String printedBy(String source) throws Exception {
        Path room = Files.createTempDirectory("readme");
        try {
            return run(room, source);
        } finally {
            remove(room);
        }
    }

    private static String run(Path room, String source) throws Exception {
        Path file = Files.writeString(room.resolve("Example.java"), source);
        JavaCompiler compiler = ToolProvider.getSystemJavaCompiler();
        int refused = compiler.run(null, null, null, "-d", room.toString(), "-cp",
                System.getProperty("java.class.path"), file.toString());
        if (refused != 0) {
            return "nothing: javac refuses it";
        }
        ByteArrayOutputStream bytes = new ByteArrayOutputStream();
        PrintStream before = System.out;
        try (URLClassLoader loader = new URLClassLoader(new URL[] {room.toUri().toURL()})) {
            System.setOut(new PrintStream(bytes, true, StandardCharsets.UTF_8));
            loader.loadClass("Example").getMethod("main", String[].class).invoke(null, (Object) new String[0]);
        } finally {
            System.setOut(before);
        }
        return bytes.toString(StandardCharsets.UTF_8).replace(System.lineSeparator(), "\n");
    }

    private static void remove(Path room) throws IOException {
        try (DirectoryStream<Path> files = Files.newDirectoryStream(room)) {
            for (Path file : files) {
                Files.delete(file);
            }
        }
        Files.delete(room);
    }

    private static void namesCalls(String readme) {
        for (Method m : ObjectFile.class.getDeclaredMethods()) {
            if (Modifier.isPublic(m.getModifiers())) {
                CHECK.that(readme.contains("`" + m.getName() + "`"), "README.md names the call " + m.getName());
            }
        }
    }

    private static void namesTests(String readme) throws IOException {
        try (DirectoryStream<Path> files = Files.newDirectoryStream(TESTS, "*.java")) {
            for (Path file : files) {
                String name = file.getFileName().toString().replace(".java", "");
                CHECK.that(readme.contains("`" + name + "`"), "README.md names " + name);
            }
        }
        Matcher m = Pattern.compile("`(\\w+Test)`").matcher(readme);
        while (m.find()) {
            CHECK.that(Files.exists(TESTS.resolve(m.group(1) + ".java")), m.group(1) + " is there");
        }
    }

    private static void commandsFindTheirFiles(String readme) {
        CHECK.that(Files.isExecutable(Path.of(".ci/run")), ".ci/run can be run");
        Matcher m = Pattern.compile("\\bsrc/[\\w/]+\\.java\\b").matcher(readme);
        int found = 0;
        while (m.find()) {
            CHECK.that(Files.exists(Path.of(m.group())), m.group() + " is there");
            found++;
        }
        CHECK.that(found > 0, "README.md tells where the class is");
    }
}
