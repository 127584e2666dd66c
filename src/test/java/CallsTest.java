import java.io.PrintWriter;
import java.io.StringWriter;
import java.nio.file.Path;
import java.util.ArrayList;
import java.util.Arrays;
import java.util.List;
import java.util.Map;
import java.util.Set;
import java.util.TreeMap;
import java.util.TreeSet;
import java.util.regex.Matcher;
import java.util.regex.Pattern;
import java.util.spi.ToolProvider;

/** Rules 4, 8, 11 and 12 of LANGUAGE.md, as javap tells what each method calls and makes. */
public final class CallsTest {
    private static final int DEEPEST = 8;
    private static final Set<String> LIBRARY = Set.of("String.length", "String.charAt", "System.arraycopy", "Math.max",
        "Math.min", "Object.<init>");
    private static final Set<String> THROWN = Set.of("IllegalStateException", "IllegalArgumentException",
        "IndexOutOfBoundsException", "UnsupportedOperationException");
    private static final Pattern HEAD = Pattern.compile("  [^ ].*?([\\w.$]+)\\([^)]*\\).*;");
    private static final Pattern CALL = Pattern.compile(".*: invoke.*Method (?:([\\w/$]+)\\.)?\"?(<init>|\\w+)\"?:.*");
    private static final Pattern MADE = Pattern.compile(".*: (?:new|newarray|anewarray|multianewarray) .*?([\\w$]+)");

    private static final Map<String, Set<String>> calls = new TreeMap<>();

    public static void main(String[] args) throws Exception {
        look(LinkLibrary.class);
        Check.due("methods were found", calls.size() > 19, true);
        for (Class<?> inside : LinkLibrary.class.getDeclaredClasses()) {
            look(inside);
        }
        onlyTheLibraryThatIsListed();
        atMostEightDeep();
        Check.end();
    }

    private static void look(Class<?> type) throws Exception {
        String room = Path.of(type.getProtectionDomain().getCodeSource().getLocation().toURI()).toString();
        StringWriter told = new StringWriter();
        PrintWriter out = new PrintWriter(told);
        ToolProvider javap = ToolProvider.findFirst("javap").orElseThrow();
        Check.due("javap of " + type, javap.run(out, out, "-c", "-p", "-cp", room, type.getName()), 0);
        String method = "";
        for (String line : told.toString().split("\\R")) {
            Matcher head = HEAD.matcher(line);
            if (head.matches()) {
                boolean constructor = head.group(1).equals(type.getName());
                method = type.getName() + "." + (constructor ? "<init>" : head.group(1));
                calls.putIfAbsent(method, new TreeSet<>());
            }
            noteCall(type, method, line);
            checkMade(method, line);
        }
    }

    private static void noteCall(Class<?> type, String method, String line) {
        Matcher call = CALL.matcher(line);
        if (call.matches()) {
            String owner = call.group(1) == null ? type.getName() : call.group(1).replaceFirst("java/lang/", "");
            calls.get(method).add(owner + "." + call.group(2));
        }
    }

    /** All room is made in constructors, but for what is thrown. */
    private static void checkMade(String method, String line) {
        Matcher made = MADE.matcher(line);
        if (made.matches() && !method.endsWith("<init>")) {
            Check.due(method + " only makes what it throws: " + made.group(1), THROWN.contains(made.group(1)), true);
        }
    }

    private static void onlyTheLibraryThatIsListed() {
        for (Map.Entry<String, Set<String>> row : calls.entrySet()) {
            for (String called : row.getValue()) {
                boolean thrown = called.endsWith(".<init>") && THROWN.contains(called.replace(".<init>", ""));
                boolean known = calls.containsKey(called) || LIBRARY.contains(called) || thrown;
                Check.due(row.getKey() + " may call " + called, known, true);
            }
        }
    }

    /** A method that calls itself, also by others, is deeper than any bound. */
    private static void atMostEightDeep() {
        for (String method : calls.keySet()) {
            List<String> chain = deepest(method, DEEPEST + 1);
            Check.due("calls are few deep: " + chain, chain.size() <= DEEPEST, true);
        }
    }

    private static List<String> deepest(String method, int most) {
        List<String> best = List.of();
        if (most > 1) {
            for (String called : calls.getOrDefault(method, Set.of())) {
                List<String> chain = deepest(called, most - 1);
                best = chain.size() > best.size() ? chain : best;
            }
        }
        List<String> chain = new ArrayList<>(Arrays.asList(method));
        chain.addAll(best);
        return chain;
    }
}
