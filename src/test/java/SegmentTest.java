/** Promises 14 segments, 15 segment, 16 descend, 17 ascend. */
public final class SegmentTest {
    public static void main(String[] args) {
        segments();
        wrongSegments();
        descents();
        wrongDescents();
        ascents();
        thereAndBack();
        Check.end();
    }

    private static void segments(String text, String... want) {
        LinkLibrary x = Check.with(text);
        Check.due("segments of " + text, x.segments(0), want.length);
        for (int i = 0; i < want.length; i++) {
            x.write(0);
            int length = x.segment(0, i);
            Check.due("length of segment " + i + " of " + text, length, want[i].length());
            Check.due("segment " + i + " of " + text, Check.out(x, length), want[i]);
            Check.due("behind segment " + i + " of " + text, x.word(length / 8) >>> 8 * (length % 8), 0L);
        }
        x.write(0);
        int[] wrong = {-1, want.length, want.length + 1, Integer.MIN_VALUE, Integer.MAX_VALUE};
        for (int i : wrong) {
            Check.fails("segment " + i + " of " + text, Check.BAD_ARGUMENT, () -> x.segment(0, i));
        }
        Check.due("the out stays", Check.out(x, text.length()), text);
    }

    private static void segments() {
        segments("");
        segments("//h");
        segments("s:?a/b#c/d");
        segments("/", "");
        segments("a", "a");
        segments("/a", "a");
        segments("a/", "a", "");
        segments("/a/", "a", "");
        segments("a/b/c", "a", "b", "c");
        segments("/a//b", "a", "", "b");
        segments("//h//", "", "");
        segments("//h///", "", "", "");
        segments("s:a:b/c", "a:b", "c");
        segments("/a%2fb/%2F%00%ff", "a/b", "/\u0000\u00ff");
        segments("/b%20c;d/%2541", "b c;d", "%41");
        segments("/./..", ".", "..");
    }

    private static void wrongSegments() {
        LinkLibrary x = new LinkLibrary();
        int[] wrong = {-1, 8, Integer.MIN_VALUE, Integer.MAX_VALUE};
        for (int bad : wrong) {
            Check.fails("segments of " + bad, Check.NO_LINK, () -> x.segments(bad));
            Check.fails("segment of " + bad, Check.NO_LINK, () -> x.segment(bad, -1));
            Check.fails("ascend of " + bad, Check.NO_LINK, () -> x.ascend(bad));
        }
    }

    private static void descend(String text, String name, String want) {
        LinkLibrary x = Check.with(text);
        Check.feed(x, name);
        Check.due("length of " + text + " and " + name, x.descend(0), want.length());
        Check.due(text + " and " + name, Check.text(x, 0), want);
        Check.due("the tape is used up", x.read(1), 0);
    }

    private static void descents() {
        descend("", "a", "a");
        descend("", "", "");
        descend("s:", "a", "s:a");
        descend("?q#f", "a", "a?q#f");
        descend("//h", "a", "//h/a");
        descend("//h", "", "//h/");
        descend("//", "a", "///a");
        descend("s://h?q", "a", "s://h/a?q");
        descend("/", "a", "/a");
        descend("/", "", "/");
        descend("a", "b", "a/b");
        descend("a", "", "a/");
        descend("a/", "b", "a/b");
        descend("a/", "", "a/");
        descend("/a", "b", "/a/b");
        descend("/a/", "b", "/a/b");
        descend("//h//", "b", "//h//b");
        descend("http://h/x/", "zz", "http://h/x/zz");
        descend("", "a:b", "a%3Ab");
        descend("a", "/", "a/%2F");
        descend("a", "..", "a/..");
        descend("a", "%41", "a/%2541");
        descend("a", "-._~09azAZ", "a/-._~09azAZ");
        descend("a", " !@:+\u0000\u00ff\u00ab", "a/%20%21%40%3A%2B%00%FF%AB");
    }

    private static void wrongDescents() {
        LinkLibrary x = Check.with("a".repeat(396), "keep");
        x.write(1);
        Check.feed(x, "bcde");
        Check.fails("401 bytes", Check.UNSUPPORTED, () -> x.descend(0));
        Check.due("the tape went", x.feed(' ', 1), 1);
        Check.fails("no link 8", Check.NO_LINK, () -> x.descend(8));
        Check.fails("no link -1", Check.NO_LINK, () -> x.descend(-1));
        Check.due("the tape went again", x.read(2), 0);
        Check.feed(x, "  ");
        Check.fails("403 bytes with codes", Check.UNSUPPORTED, () -> x.descend(0));
        Check.due("the link stays", x.part(0, 4), 396);
        x.write(1);
        Check.feed(x, " ");
        Check.due("400 bytes with a code", x.descend(0), 400);
        Check.due("the out stays", Check.out(x, 4), "keep");
        Check.fails("401 bytes by the / alone", Check.UNSUPPORTED, () -> x.descend(0));
        Check.due("its last segment", x.segment(0, 1), 1);
        LinkLibrary y = Check.with("/");
        Check.feed(y, "a".repeat(399));
        Check.due("all of 400", y.descend(0), 400);
        Check.feed(y, "\u00ff".repeat(400));
        Check.fails("1200 bytes of codes", Check.UNSUPPORTED, () -> y.descend(1));
        Check.feed(y, "\u00ff".repeat(133));
        Check.due("399 bytes of codes", y.descend(1), 399);
        Check.due("the faults are not of descend", y.fault(false), 0);
    }

    private static void ascend(String text, String want) {
        LinkLibrary x = Check.with(text);
        Check.due("length above " + text, x.ascend(0), want.length());
        Check.due("above " + text, Check.text(x, 0), want);
    }

    private static void ascents() {
        ascend("", "");
        ascend("a", "");
        ascend("/", "/");
        ascend("/a", "/");
        ascend("a/", "");
        ascend("a/b", "a/");
        ascend("/a/", "/");
        ascend("/a/b", "/a/");
        ascend("/a//", "/a/");
        ascend("/a/b/", "/a/");
        ascend("a/b/", "a/");
        ascend("//h", "//h");
        ascend("//h/", "//h/");
        ascend("//h//", "//h/");
        ascend("//h//a", "//h//");
        ascend("s:a?b/c#d/e", "s:?b/c#d/e");
        ascend("s:a:b/c", "s:a:b/");
        ascend("/.//b", "/.//");
        ascend("/.//", "/./");
        ascend("/..", "/");
    }

    private static void thereAndBack() {
        LinkLibrary x = Check.with("http://h/a/b?q");
        Check.due("up", x.ascend(0), 13);
        Check.feed(x, "c d");
        Check.due("and down", x.descend(0), 18);
        Check.due("its text", Check.text(x, 0), "http://h/a/c%20d?q");
    }
}
