import com.sun.management.ThreadMXBean;
import java.io.IOException;
import java.lang.management.ManagementFactory;
import java.lang.reflect.Constructor;
import java.lang.reflect.Field;
import java.lang.reflect.Method;
import java.lang.reflect.Modifier;
import java.nio.file.Files;
import java.nio.file.Path;
import java.util.Arrays;
import java.util.List;
import java.util.Set;
import java.util.TreeSet;
import java.util.stream.Collectors;

/** The public face, and those rules of LANGUAGE.md that a look at the class or its text can tell. */
public final class FaceTest {
    private static final String OUTSIDE = "IndexOutOfBoundsException";
    private static final String ARGUMENT = "IllegalArgumentException";
    private static final String STATE = "IllegalStateException";
    private static final String UNSUPPORTED = "UnsupportedOperationException";
    private static final List<String> FACE = List.of(
        "int feed(long,int) " + ARGUMENT + " " + STATE,
        "int read(int) " + OUTSIDE + " " + ARGUMENT,
        "int fault(boolean)",
        "int write(int) " + OUTSIDE,
        "int part(int,int) " + OUTSIDE + " " + ARGUMENT,
        "int host(int) " + OUTSIDE,
        "int address(int,int) " + OUTSIDE + " " + STATE + " " + ARGUMENT,
        "int port(int) " + OUTSIDE,
        "int resolve(int,int,int,boolean) " + OUTSIDE + " " + STATE + " " + UNSUPPORTED,
        "int normalise(int,int,int) " + OUTSIDE + " " + ARGUMENT + " " + UNSUPPORTED,
        "int relate(int,int,int) " + OUTSIDE + " " + STATE + " " + UNSUPPORTED,
        "boolean same(int,int,int) " + OUTSIDE + " " + ARGUMENT,
        "int segments(int) " + OUTSIDE,
        "int segment(int,int) " + OUTSIDE + " " + ARGUMENT,
        "int descend(int) " + OUTSIDE + " " + UNSUPPORTED,
        "int ascend(int) " + OUTSIDE,
        "int pairs(int) " + OUTSIDE,
        "int pair(int,int,boolean) " + OUTSIDE + " " + ARGUMENT,
        "long word(int)");
    private static final List<String> BANNED = List.of("import ", "package ", "->", "::", "synchronized", "assert", "finally",
        "try ", "try{", "catch", "protected", "instanceof", "var ", "float", "double", "System.out", "Exact(", " new int[]{");

    public static void main(String[] args) throws IOException {
        face();
        members(LinkLibrary.class);
        text(Files.readString(Path.of("src/main/java/LinkLibrary.java")));
        room();
        Check.end();
    }

    private static void face() {
        Set<String> got = new TreeSet<>();
        for (Method method : LinkLibrary.class.getDeclaredMethods()) {
            if (!Modifier.isPrivate(method.getModifiers())) {
                Check.due(method.getName() + " is", Modifier.toString(method.getModifiers()), "public");
                got.add(told(method));
            }
        }
        Check.due("the face", got.toString(), new TreeSet<>(FACE).toString());
        Constructor<?>[] made = LinkLibrary.class.getDeclaredConstructors();
        Check.due("constructors", made.length, 1);
        Check.due("the constructor", made[0].toString(), "public LinkLibrary()");
        Check.due("the class", Modifier.toString(LinkLibrary.class.getModifiers()), "public final");
    }

    private static String told(Method method) {
        String types = Arrays.stream(method.getParameterTypes()).map(Class::getName).collect(Collectors.joining(","));
        String thrown = Arrays.stream(method.getExceptionTypes()).map(t -> " " + t.getSimpleName())
            .collect(Collectors.joining());
        return method.getReturnType() + " " + method.getName() + "(" + types + ")" + thrown;
    }

    private static void members(Class<?> type) {
        Set<String> names = FACE.stream().map(row -> row.substring(row.indexOf(' ') + 1, row.indexOf('(')))
            .collect(Collectors.toSet());
        int fields = 0;
        for (Field field : type.getDeclaredFields()) {
            int bits = field.getModifiers();
            Check.due(field + " is private", Modifier.isPrivate(bits), true);
            Check.due(field + " is no changing static one", Modifier.isStatic(bits) && !Modifier.isFinal(bits), false);
            fields += Modifier.isStatic(bits) ? 0 : 1;
        }
        Check.due(type + " has few fields", fields <= 20, true);
        for (Method method : type.getDeclaredMethods()) {
            boolean open = Modifier.isPublic(method.getModifiers());
            Check.due(method + " has a name of its own", open || !names.contains(method.getName()), true);
            Check.due(method + " has few parameters", method.getParameterCount() <= 7, true);
        }
        Class<?>[] inside = type.getDeclaredClasses();
        Check.due(type + " has few classes", inside.length <= 11, true);
        for (Class<?> one : inside) {
            Check.due(one + " is", Modifier.toString(one.getModifiers()), "private static final");
            members(one);
        }
    }

    private static void text(String source) {
        String bare = source.replaceAll("\"[^\"\n]*\"", "\"\"").replaceAll("(?s)/\\*.*?\\*/", "");
        for (String word : BANNED) {
            Check.due("the text has " + word, bare.contains(word), false);
        }
        Check.due("signs beyond 127", source.chars().allMatch(c -> c < 128), true);
        int length = 0;
        for (String line : bare.split("\n")) {
            length = line.matches("    (    )?(private|public|static).*\\{|    (    )?(private|public).*\\)") ? 0 : length + 1;
            Check.due("a long method at: " + line, length <= 60, true);
        }
    }

    /** All room is made in the constructor: rule 12 counts what the calls of a run make. */
    private static void room() {
        ThreadMXBean threads = (ThreadMXBean) ManagementFactory.getThreadMXBean();
        dearCalls(Check.with("http://h/" + "a/".repeat(190), "http://h/" + "b/".repeat(190)), 20);
        LinkLibrary x = Check.with("http://h/" + "a/".repeat(190), "http://h/" + "b/".repeat(190));
        long before = threads.getCurrentThreadAllocatedBytes();
        dearCalls(x, 60);
        long made = threads.getCurrentThreadAllocatedBytes() - before;
        Check.due("360 dear calls make little, not " + made, made < 20_000, true);
        before = threads.getCurrentThreadAllocatedBytes();
        new LinkLibrary();
        made = threads.getCurrentThreadAllocatedBytes() - before;
        Check.due("an object is small, not " + made, made < 100_000, true);
    }

    private static void dearCalls(LinkLibrary x, int rounds) {
        for (int i = 0; i < rounds; i++) {
            x.relate(2, 0, 1);
            x.resolve(3, 0, 2, true);
            x.normalise(4, 3, 31);
            x.same(3, 4, 31);
            x.segment(4, 180);
            x.write(1);
        }
    }
}
