/** Promises 1 A new object, 2 feed, 5 write, 20 word. */
public final class StateTest {
    public static void main(String[] args) {
        newObject();
        feeding();
        feedingWrongly();
        writing();
        words();
        Check.end();
    }

    private static void newObject() {
        LinkLibrary x = new LinkLibrary();
        Check.due("a new fault", x.fault(false), 0);
        Check.due("a new place", x.fault(true), 0);
        Check.due("a new word", x.word(0), 0L);
        for (int link = 0; link < 8; link++) {
            Check.due("a new length", x.write(link), 0);
            Check.due("a new host", x.host(link), 0);
            Check.due("a new port", x.port(link), -1);
            Check.due("new segments", x.segments(link), 0);
            Check.due("new pairs", x.pairs(link), 0);
            for (int part = 0; part < 7; part++) {
                Check.due("a new part " + part, x.part(link, part), part == 4 ? 0 : -1);
            }
        }
        Check.due("a new tape", x.read(0), 0);
    }

    private static void feeding() {
        LinkLibrary x = new LinkLibrary();
        Check.due("feed 1", x.feed(0x1122334455667761L, 1), 1);
        Check.due("feed 3", x.feed(0x1122334455646362L, 3), 4);
        Check.due("feed 8", x.feed(0x6C6B6A6968676665L, 8), 12);
        Check.due("read", x.read(0), 12);
        Check.due("the lowest first", Check.text(x, 0), "abcdefghijkl");
        Check.due("the tape is used up", x.feed(0x61, 1), 1);
    }

    private static void feedingWrongly() {
        LinkLibrary x = new LinkLibrary();
        int[] wrong = {0, 9, -1, Integer.MIN_VALUE, Integer.MAX_VALUE};
        for (int n : wrong) {
            Check.fails("feed " + n, Check.BAD_ARGUMENT, () -> x.feed(1, n));
        }
        Check.feed(x, "a".repeat(396));
        Check.fails("feed to 401", Check.BAD_STATE, () -> x.feed(0x6161616161L, 5));
        Check.fails("n before the room", Check.BAD_ARGUMENT, () -> x.feed(0x61, 9));
        Check.due("feed to 400", x.feed(0x62626262L, 4), 400);
        Check.fails("feed to 401 again", Check.BAD_STATE, () -> x.feed(0x61, 1));
        Check.due("read 400", x.read(7), 400);
        Check.due("all of it", Check.text(x, 7), "a".repeat(396) + "bbbb");
    }

    private static void writing() {
        String[] texts = {"", "a", "s:", "//", "//u@h:1/p?q#f", "?", "#", "//@:?#", "s://u:p@[::1]:/?a=b#c", "a@b/:?/#?"};
        for (String text : texts) {
            LinkLibrary x = new LinkLibrary();
            Check.due("read " + text, Check.read(x, 3, text), text.length());
            Check.due("write " + text, x.write(3), text.length());
            Check.due("text " + text, Check.text(x, 3), text);
        }
        LinkLibrary x = Check.with("abc");
        x.write(0);
        int[] wrong = {-1, 8, Integer.MIN_VALUE, Integer.MAX_VALUE};
        for (int link : wrong) {
            Check.fails("write " + link, Check.NO_LINK, () -> x.write(link));
        }
        Check.due("the out stays", Check.out(x, 3), "abc");
    }

    private static void words() {
        LinkLibrary x = Check.with("abcdefghij");
        Check.due("write", x.write(0), 10);
        Check.due("word 0", x.word(0), 0x6867666564636261L);
        Check.due("word 1", x.word(1), 0x6A69L);
        int[] none = {2, 49, 50, 51, -1, 1 << 29, 1 << 28, Integer.MIN_VALUE, Integer.MAX_VALUE};
        for (int i : none) {
            Check.due("word " + i, x.word(i), 0L);
        }
        LinkLibrary high = Check.with("/%ff%80%00%7F%FE%81%82%83%84");
        Check.due("high bytes", high.segment(0, 0), 9);
        Check.due("their word", high.word(0), 0x838281FE7F0080FFL);
        Check.due("their next word", high.word(1), 0x84L);
        LinkLibrary full = Check.with("a".repeat(392) + "bcdefghi");
        full.write(0);
        Check.due("the last word", full.word(49), 0x6968676665646362L);
        Check.due("behind it", full.word(50), 0L);
    }
}
