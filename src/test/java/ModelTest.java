import java.util.function.Supplier;

/** Long runs of calls, made by a fixed row of numbers: the program and the model must answer alike. */
public final class ModelTest {
    private static final String[] PIECES = {"a", "b", "c", "A", "x", "1", "0", ".", "..", "/", "/", "/", "//", ":", "?", "#",
        "&", "=", "@", "%41", "%2e", "%2F", "%3a", "%fF", "%", "[", "]", "[::1]", "[1:2:3:4:5:6:7:8]", "[0:0::FFFF:1.2.3.4]",
        "[v1.a]", "1.2.3.4", "255.0.10.256", "http:", "s:", "S:", "https:", "//h", "//u@h:80", "//h:443", ":80", ":080",
        ":65536", "../", "./", "/..", "/.", "/../", "/./", "a/", "b/", "a:b", " ", "\u00e9", "+", "-", "~", "_", "::", "v1."};
    private static final String[] WHOLE = {"", "s:", "s:a/b/c", "s:/a/b/c", "s:/a/b/c/", "s:/a//b", "s:/.//a", "s://h", "s://h/",
        "s://h/a", "s://h/a/b?q", "s://h/a/b?q#f", "http://h:80", "http://h/a/./b/../c", "HTTP://H/%7ea", "a/b", "../a",
        "?a=1&b&=c", "#f", "//h:/", "//[1:0:0:2::]", "//[::ffff:1.2.3.4]:443/", "//1.2.3.4", "urn:a:b", "urn:c", "urn:a/b:c",
        "http://h//a", "http://h//b", "http://h/a/../b", "wss://[1:2:3:4:5:6:7::]:443?%3d=%3D"};

    private static long state = 1;

    private static int pick(int bound) {
        state = state * 6364136223846793005L + 1442695040888963407L;
        return (int) ((state >>> 33) % bound);
    }

    public static void main(String[] args) {
        for (int run = 1; run <= 4000; run++) {
            state = run;
            if (!isRunAlike(run)) {
                break;
            }
        }
        Check.end();
    }

    /** What a call answers, or the very class of what it throws. */
    private static String answer(Supplier<Object> call) {
        try {
            return call.get().toString();
        } catch (RuntimeException e) {
            return e.getClass().getName();
        }
    }

    private static boolean isAlike(String what, Supplier<Object> program, Supplier<Object> model) {
        String got = answer(program);
        String want = answer(model);
        Check.due(what, got, want);
        return got.equals(want);
    }

    private static boolean isRunAlike(int run) {
        LinkLibrary x = new LinkLibrary();
        Model m = new Model();
        StringBuilder told = new StringBuilder("run " + run);
        int calls = 0;
        while (calls < 440) {
            boolean alike = true;
            if (pick(3) == 0) {
                String text = someText();
                calls += text.length() / 8 + 1;
                alike = feedBoth(told, x, m, text);
            }
            calls += 2;
            alike = alike && callBoth(told, x, m) && isOutAlike(told, x, m, pick(pick(8) == 0 ? 50 : 4));
            if (!alike) {
                return false;
            }
        }
        for (int link = 0; link < 8; link++) {
            int i = link;
            if (!isAlike(told + " write", () -> x.write(i), () -> m.write(i)) || !isOutAlike(told, x, m, pick(3))) {
                return false;
            }
        }
        return true;
    }

    private static boolean isOutAlike(StringBuilder told, LinkLibrary x, Model m, int i) {
        return isAlike(told + " word " + i, () -> x.word(i), () -> m.word(i));
    }

    private static String someText() {
        if (pick(3) == 0) {
            return WHOLE[pick(WHOLE.length)];
        }
        StringBuilder text = new StringBuilder(pick(2) == 0 ? WHOLE[pick(WHOLE.length)] : "");
        int pieces = pick(8);
        for (int i = 0; i < pieces; i++) {
            text.append(PIECES[pick(PIECES.length)]);
        }
        if (pick(12) == 0) {
            text.append("a/".repeat(pick(190)));
        }
        return text.length() > 400 ? text.substring(0, 400) : text.toString();
    }

    private static boolean feedBoth(StringBuilder told, LinkLibrary x, Model m, String text) {
        told.append("; feed ").append(text);
        for (int i = 0; i < text.length(); i += 8) {
            int n = Math.min(8, text.length() - i);
            long word = 0;
            for (int k = n - 1; k >= 0; k--) {
                word = word << 8 | text.charAt(i + k);
            }
            long bytes = word;
            if (!isAlike(told.toString(), () -> x.feed(bytes, n), () -> m.feed(bytes, n))) {
                return false;
            }
        }
        return true;
    }

    private static int link() {
        return pick(40) == 0 ? pick(2) * 9 - 1 : pick(pick(3) == 0 ? 8 : 4);
    }

    private static boolean callBoth(StringBuilder told, LinkLibrary x, Model m) {
        int kind = pick(23);
        int a = link();
        int b = link();
        int c = link();
        int i = pick(9) - 1;
        int how = pick(20) == 0 ? 32 : pick(32);
        boolean flag = pick(2) == 0;
        told.append("; ").append(kind).append(' ').append(a).append(' ').append(b).append(' ').append(c)
            .append(' ').append(i).append(' ').append(how).append(' ').append(flag);
        String what = told.toString();
        switch (kind) {
            case 0: return isAlike(what, () -> x.fault(flag), () -> m.fault(flag));
            case 1: return isAlike(what, () -> x.write(a), () -> m.write(a));
            case 2: return isAlike(what, () -> x.part(a, i), () -> m.part(a, i));
            case 3: return isAlike(what, () -> x.host(a), () -> m.host(a));
            case 4: return isAlike(what, () -> x.address(a, i), () -> m.address(a, i));
            case 5: return isAlike(what, () -> x.port(a), () -> m.port(a));
            case 6: case 7: case 8:
                return isAlike(what, () -> x.resolve(a, b, c, flag), () -> m.resolve(a, b, c, flag));
            case 9: return isAlike(what, () -> x.normalise(a, b, how), () -> m.normalise(a, b, how));
            case 10: case 11: return isAlike(what, () -> x.relate(a, b, c), () -> m.relate(a, b, c));
            case 12: return isAlike(what, () -> x.same(a, b, how), () -> m.same(a, b, how));
            case 13: return isAlike(what, () -> x.segments(a), () -> m.segments(a));
            case 14: return isAlike(what, () -> x.segment(a, i), () -> m.segment(a, i));
            case 15: return isAlike(what, () -> x.descend(a), () -> m.descend(a));
            case 16: return isAlike(what, () -> x.ascend(a), () -> m.ascend(a));
            case 17: return isAlike(what, () -> x.pairs(a), () -> m.pairs(a));
            case 18: return isAlike(what, () -> x.pair(a, i, flag), () -> m.pair(a, i, flag));
            case 19: return isAlike(what, () -> x.feed(how, i), () -> m.feed(how, i));
            default: return isAlike(what, () -> x.read(a), () -> m.read(a));
        }
    }
}
