import java.nio.charset.StandardCharsets;

/** What the tests share: texts go in through the tape and come out through the words. */
final class Check {
    static final Class<?> NO_LINK = IndexOutOfBoundsException.class;
    static final Class<?> BAD_ARGUMENT = IllegalArgumentException.class;
    static final Class<?> BAD_STATE = IllegalStateException.class;
    static final Class<?> UNSUPPORTED = UnsupportedOperationException.class;

    static final String DIGITS = "0123456789";
    static final String LETTERS = "ABCDEFGHIJKLMNOPQRSTUVWXYZabcdefghijklmnopqrstuvwxyz";
    static final String FREE = LETTERS + DIGITS + "-._~";
    static final String SUBS = "!$&'()*+,;=";

    private static int wrong;
    private static int checked;

    private Check() {
    }

    static void due(String what, Object got, Object want) {
        checked++;
        if (!got.equals(want)) {
            wrong++;
            System.out.println(what + " answered " + got + ", due is " + want);
        }
    }

    /** The very class counts: what the machine throws is of a class below it. */
    static void fails(String what, Class<?> want, Runnable call) {
        String got = "nothing thrown";
        try {
            call.run();
        } catch (RuntimeException e) {
            got = e.getClass().getName();
        }
        due(what, got, want.getName());
    }

    static void end() {
        System.out.println(checked + " checked, " + wrong + " wrong");
        System.exit(wrong == 0 ? 0 : 1);
    }

    static void feed(LinkLibrary x, String text) {
        byte[] bytes = text.getBytes(StandardCharsets.ISO_8859_1);
        for (int i = 0; i < bytes.length; i += 8) {
            int n = Math.min(8, bytes.length - i);
            long word = 0;
            for (int k = n - 1; k >= 0; k--) {
                word = word << 8 | bytes[i + k] & 255;
            }
            x.feed(word, n);
        }
    }

    static int read(LinkLibrary x, int link, String text) {
        feed(x, text);
        return x.read(link);
    }

    /** A new object whose links 0, 1, .. are these. */
    static LinkLibrary with(String... links) {
        LinkLibrary x = new LinkLibrary();
        for (int i = 0; i < links.length; i++) {
            read(x, i, links[i]);
        }
        return x;
    }

    /** One call for eight bytes, as an object has but 512 calls. */
    static String out(LinkLibrary x, int length) {
        StringBuilder text = new StringBuilder();
        for (int i = 0; i < length; i += 8) {
            long word = x.word(i / 8);
            for (int k = 0; k < 8 && i + k < length; k++) {
                text.append((char) (word >>> 8 * k & 255));
            }
        }
        return text.toString();
    }

    static String text(LinkLibrary x, int link) {
        return out(x, x.write(link));
    }

    static String repeat(String text, int times) {
        return text.repeat(times);
    }

    /** Each fault as its number and its place, "0@0" when there was none. */
    static String faultOf(String text) {
        LinkLibrary x = new LinkLibrary();
        try {
            read(x, 0, text);
        } catch (IllegalArgumentException e) {
            due("a fault of " + text + " leaves the link", x.write(0), 0);
        }
        return x.fault(false) + "@" + x.fault(true);
    }

    /** The whole out, as far as a link can fill it; it takes 50 calls. */
    static String wholeOut(LinkLibrary x) {
        return out(x, 400).replaceFirst("\u0000+$", "");
    }

    static void fault(String text, String want) {
        due("fault of " + text, faultOf(text), want);
    }

    /** Texts that all are references, or that all have the fault, as in "4@2". */
    static void faults(String want, String... texts) {
        for (String text : texts) {
            fault(text, want);
        }
    }
}
