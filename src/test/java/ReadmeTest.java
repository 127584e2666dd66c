import java.io.ByteArrayOutputStream;
import java.io.File;
import java.io.IOException;
import java.io.PrintStream;
import java.lang.reflect.Method;
import java.lang.reflect.Modifier;
import java.net.URL;
import java.net.URLClassLoader;
import java.nio.file.Files;
import java.nio.file.Path;
import java.util.Arrays;
import java.util.Comparator;
import java.util.Set;
import java.util.TreeSet;
import java.util.regex.Matcher;
import java.util.regex.Pattern;
import java.util.stream.Collectors;
import java.util.stream.Stream;
import javax.tools.ToolProvider;

/** README.md: its example prints what it says, and its tables name every call and every test. */
public final class ReadmeTest {
    public static void main(String[] args) throws Exception {
        String readme = Files.readString(Path.of("README.md"));
        example(block(readme, "java"), block(readme, "text"));
        everyCall(readme);
        everyTest(readme);
        everyFileThatIsNamed(readme);
        Check.end();
    }

    /** What stands between the first line ``` of a kind and the next ```. */
    private static String block(String readme, String kind) {
        Matcher m = Pattern.compile("```" + kind + "\n(.*?)```", Pattern.DOTALL).matcher(readme);
        Check.due("there is a block of " + kind, m.find(), true);
        return m.group(1);
    }

    private static void example(String program, String printed) throws Exception {
        Path room = Files.createTempDirectory("readme");
        try {
            Path file = room.resolve("Example.java");
            Files.writeString(file, program);
            int failed = ToolProvider.getSystemJavaCompiler().run(null, null, null, "-Xlint:all", "-Werror", "-d",
                room.toString(), "src/main/java/LinkLibrary.java", file.toString());
            Check.due("the compiler, of the example", failed, 0);
            Check.due("the example prints", whatIsPrinted(room), printed);
        } finally {
            remove(room);
        }
    }

    private static String whatIsPrinted(Path room) throws Exception {
        PrintStream before = System.out;
        ByteArrayOutputStream bytes = new ByteArrayOutputStream();
        URL[] places = {room.toUri().toURL()};
        try (URLClassLoader loader = new URLClassLoader(places, ClassLoader.getPlatformClassLoader())) {
            System.setOut(new PrintStream(bytes, true));
            loader.loadClass("Example").getMethod("main", String[].class).invoke(null, (Object) new String[0]);
        } finally {
            System.setOut(before);
        }
        return bytes.toString().replace(System.lineSeparator(), "\n");
    }

    private static void remove(Path room) throws IOException {
        try (Stream<Path> all = Files.walk(room)) {
            all.sorted(Comparator.reverseOrder()).map(Path::toFile).forEach(File::delete);
        }
    }

    private static void everyCall(String readme) {
        Set<String> face = Arrays.stream(LinkLibrary.class.getDeclaredMethods())
            .filter(m -> Modifier.isPublic(m.getModifiers())).map(Method::getName)
            .collect(Collectors.toCollection(TreeSet::new));
        Check.due("the table of calls", firsts(readme, "\\| `(\\w+)\\(.*"), face);
    }

    private static void everyTest(String readme) throws IOException {
        try (Stream<Path> all = Files.list(Path.of("src/test/java"))) {
            Set<String> tests = all.map(file -> file.getFileName().toString()).filter(name -> name.endsWith("Test.java"))
                .map(name -> name.replace(".java", "")).collect(Collectors.toCollection(TreeSet::new));
            Check.due("the table of tests", firsts(readme, "\\| (\\w+Test) \\|.*"), tests);
        }
    }

    private static Set<String> firsts(String readme, String row) {
        Set<String> found = new TreeSet<>();
        for (String line : readme.split("\n")) {
            Matcher m = Pattern.compile(row).matcher(line);
            if (m.matches()) {
                found.add(m.group(1));
            }
        }
        return found;
    }

    private static void everyFileThatIsNamed(String readme) {
        String[] files = {".ci/run", "NOTES.md", "src/main/java/LinkLibrary.java", "src/test/java"};
        for (String file : files) {
            Check.due("the file is named: " + file, readme.contains(file), true);
            Check.due("the file is there: " + file, Files.exists(Path.of(file)), true);
        }
    }
}
