import java.util.ArrayList;
import java.util.List;
import java.util.function.Supplier;

/** All texts of a few signs up to a length, as links and as parts of links: the program and the model answer alike. */
public final class ShortTextTest {
    private static final String[] BEFORE = {"t:", "t://h/", "t:/"};

    /** No object is used for more than its 512 calls, of which a pair of texts takes some ten. */
    private static final int PAIRS_AN_OBJECT = 40;

    private static LinkLibrary program = new LinkLibrary();
    private static Model model = new Model();
    private static String what = "";

    public static void main(String[] args) {
        reading();
        addressesOfSix();
        dotsAndSegments();
        relating();
        resolving();
        Check.end();
    }

    private static List<String> texts(String signs, int longest) {
        List<String> all = new ArrayList<>(List.of(""));
        int from = 0;
        for (int length = 1; length <= longest; length++) {
            int to = all.size();
            for (int i = from; i < to; i++) {
                for (char sign : signs.toCharArray()) {
                    all.add(all.get(i) + sign);
                }
            }
            from = to;
        }
        return all;
    }

    private static void begin(String told) {
        program = new LinkLibrary();
        model = new Model();
        what = told;
    }

    private static String answer(Supplier<Object> call) {
        try {
            return call.get().toString();
        } catch (RuntimeException e) {
            return e.getClass().getName();
        }
    }

    private static void alike(String call, Supplier<Object> got, Supplier<Object> want) {
        Check.due(what + ": " + call, answer(got), answer(want));
    }

    private static void read(int link, String text) {
        Check.feed(program, text);
        for (char sign : text.toCharArray()) {
            model.feed(sign, 1);
        }
        alike("read", () -> program.read(link), () -> model.read(link));
    }

    private static void textOf(int link, int words) {
        alike("write", () -> program.write(link), () -> model.write(link));
        for (int i = 0; i < words; i++) {
            int word = i;
            alike("word " + i, () -> program.word(word), () -> model.word(word));
        }
    }

    private static void reading() {
        for (String text : texts("a:/@[].", 5)) {
            readAndTell(text);
            readAndTell("//" + text);
        }
    }

    private static void readAndTell(String text) {
        begin(text);
        read(0, text);
        alike("fault", () -> program.fault(false), () -> model.fault(false));
        alike("place", () -> program.fault(true), () -> model.fault(true));
        alike("host", () -> program.host(0), () -> model.host(0));
        for (int i = 0; i < 7; i++) {
            int part = i;
            alike("part " + i, () -> program.part(0, part), () -> model.part(0, part));
        }
    }

    private static void addressesOfSix() {
        for (String text : texts(":1.0", 7)) {
            begin("[" + text + "]");
            read(0, "//[" + text + "]");
            alike("host", () -> program.host(0), () -> model.host(0));
            for (int i = 0; i < 4; i++) {
                int bits = i;
                alike("bits " + i, () -> program.address(0, bits), () -> model.address(0, bits));
            }
            alike("by 16", () -> program.normalise(0, 0, 16), () -> model.normalise(0, 0, 16));
            textOf(0, 2);
        }
    }

    private static void dotsAndSegments() {
        for (String text : texts("a/.", 7)) {
            for (String before : BEFORE) {
                begin(before + text);
                read(0, before + text);
                alike("by 4", () -> program.normalise(1, 0, 4), () -> model.normalise(1, 0, 4));
                textOf(1, 2);
                alike("segments", () -> program.segments(0), () -> model.segments(0));
                alike("ascend", () -> program.ascend(0), () -> model.ascend(0));
                textOf(0, 2);
            }
        }
    }

    private static List<String> links(int longest) {
        List<String> links = new ArrayList<>();
        for (String text : texts("a/.:", longest)) {
            for (String before : BEFORE) {
                links.add(before + text);
            }
        }
        return links;
    }

    private static void relating() {
        List<String> targets = links(3);
        for (String base : targets) {
            for (int i = 0; i < targets.size(); i++) {
                beginAgain(base, i);
                read(1, targets.get(i));
                what = targets.get(i) + " from " + base;
                alike("relate", () -> program.relate(2, 0, 1), () -> model.relate(2, 0, 1));
                textOf(2, 2);
            }
        }
    }

    private static void resolving() {
        List<String> steps = links(3);
        for (String text : texts("a/.:", 3)) {
            steps.add(text);
            steps.add("//" + text);
            steps.add("s:" + text);
            steps.add(text + "?q");
        }
        for (String base : links(2)) {
            for (int i = 0; i < steps.size(); i++) {
                beginAgain(base, i);
                read(1, steps.get(i));
                boolean strict = i % 2 == 0;
                what = steps.get(i) + " against " + base;
                alike("resolve", () -> program.resolve(2, 0, 1, strict), () -> model.resolve(2, 0, 1, strict));
                textOf(2, 2);
            }
        }
    }

    /** With a base as link 0, and an object of its own for each few texts. */
    private static void beginAgain(String base, int i) {
        if (i % PAIRS_AN_OBJECT == 0) {
            begin(base);
            read(0, base);
        }
    }
}
