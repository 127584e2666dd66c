/** Each sentence of the promises 1 .. 9 and 20 that names an edge, above a test of its own. */
public final class AnswerEdgeTest {
    private static final int[] OUTSIDE = {-1, 8, 9, -8, 256, Integer.MIN_VALUE, Integer.MAX_VALUE};

    public static void main(String[] args) {
        newObject();
        feedTakesTheLowest();
        feedTellsHowMany();
        feedOfWrongCounts();
        feedBeyond400();
        readTellsTheLength();
        readOfAFault();
        faultBefore();
        faultOfTheLatestRead();
        faultBehindOneWithout();
        writeTellsHowMany();
        partTellsHowMany();
        partThatIsNotThere();
        partThatIsNone();
        hostKinds();
        addressOfFour();
        addressOfSix();
        addressBits();
        addressOfNone();
        addressWithoutSuchBits();
        portNumbers();
        portThatIsNone();
        wordsFromTheFirst();
        wordsBehindTheEnd();
        wordsThatAreNone();
        linksThatAreNone();
        Check.end();
    }

    /** "LinkLibrary(): As told": empty links, an empty out, an empty tape, no fault, and nothing of another object. */
    private static void newObject() {
        LinkLibrary other = Check.with("s://h", "a b".replace(' ', '.'));
        other.write(0);
        Check.feed(other, "tape");
        LinkLibrary x = new LinkLibrary();
        Check.due("out", x.word(0), 0L);
        Check.due("fault", x.fault(false), 0);
        for (int link = 0; link < 8; link++) {
            Check.due("link " + link, x.write(link), 0);
        }
        Check.due("tape", x.read(0), 0);
        Check.due("the other's tape", other.read(2), 4);
        Check.due("the other's link", Check.text(other, 0), "s://h");
    }

    /** "The n lowest of eight bytes come behind the tape, the lowest one first". */
    private static void feedTakesTheLowest() {
        for (int n = 1; n <= 8; n++) {
            LinkLibrary x = new LinkLibrary();
            x.feed('-', 1);
            Check.due("feed " + n, x.feed(0x6867666564636261L, n), n + 1);
            x.read(0);
            Check.due("lowest of " + n, Check.text(x, 0), "-abcdefgh".substring(0, n + 1));
        }
        LinkLibrary x = new LinkLibrary();
        x.feed(-1L, 8);
        x.descend(0);
        Check.due("all ones", Check.text(x, 0), "%FF".repeat(8));
        x.feed(Long.MIN_VALUE, 8);
        x.descend(1);
        Check.due("the highest bit", Check.text(x, 1), "%00".repeat(7) + "%80");
        x.feed(0xFFFFFFFFFFFFFF61L, 1);
        Check.due("what is above is left", x.read(2), 1);
    }

    /** "how many it has": the whole tape, not what came. */
    private static void feedTellsHowMany() {
        LinkLibrary x = new LinkLibrary();
        int sum = 0;
        for (int n = 1; n <= 8; n++) {
            sum += n;
            Check.due("with " + n, x.feed(0x6161616161616161L, n), sum);
        }
        x.read(0);
        Check.due("behind read", x.feed('a', 1), 1);
        x.descend(0);
        Check.due("behind descend", x.feed('a', 1), 1);
    }

    /** "IllegalArgument: n is not 1 .. 8." */
    private static void feedOfWrongCounts() {
        for (int n : new int[] {0, 9, -1, -7, -8, 16, 257, Integer.MIN_VALUE, Integer.MIN_VALUE + 1, Integer.MAX_VALUE}) {
            LinkLibrary x = new LinkLibrary();
            x.feed('a', 1);
            Check.fails("feed " + n, Check.BAD_ARGUMENT, () -> x.feed(0x62, n));
            Check.due("nothing came by " + n, x.read(0), 1);
        }
    }

    /** "IllegalState: there would be more than 400." */
    private static void feedBeyond400() {
        for (int n = 1; n <= 8; n++) {
            int count = n;
            LinkLibrary x = new LinkLibrary();
            Check.feed(x, "a".repeat(401 - n));
            Check.fails("one too many by " + n, Check.BAD_STATE, () -> x.feed(0x6262626262626262L, count));
            Check.due("as many as there may be", n == 1 ? 400 : x.feed(0x6262626262626262L, n - 1), 400);
            x.read(0);
            Check.due("nothing else came", Check.text(x, 0), "a".repeat(401 - n) + "b".repeat(n - 1));
        }
    }

    /** "The tape is read as a link: its length": also of nothing, and over what the link was. */
    private static void readTellsTheLength() {
        LinkLibrary x = new LinkLibrary();
        for (String text : new String[] {"s://u@h:1/p?q#f", "", "//", "a".repeat(400), "#"}) {
            Check.due("read " + text, Check.read(x, 5, text), text.length());
            Check.due("text " + text, Check.text(x, 5), text);
        }
    }

    /** "IllegalArgument: a fault, which is told then." */
    private static void readOfAFault() {
        String[] rows = {"a_:", "1@1", "a%4", "2@1", "a b", "3@1", "//[::g]", "4@2", "//h:65536", "5@4"};
        for (int i = 0; i < rows.length; i += 2) {
            LinkLibrary x = Check.with("keep");
            Check.feed(x, rows[i]);
            Check.fails("read " + rows[i], Check.BAD_ARGUMENT, () -> x.read(0));
            Check.due("told of " + rows[i], x.fault(false) + "@" + x.fault(true), rows[i + 1]);
            Check.due("the link stays", Check.text(x, 0), "keep");
        }
    }

    private static void told(LinkLibrary x, String want) {
        Check.due("fault", x.fault(false) + "@" + x.fault(true), want);
    }

    /** "0 before": whatever else was called. */
    private static void faultBefore() {
        LinkLibrary x = new LinkLibrary();
        told(x, "0@0");
        Check.feed(x, "a b");
        x.descend(0);
        Check.fails("no link", Check.NO_LINK, () -> x.write(8));
        told(x, "0@0");
    }

    /** "The fault of the latest read(), or its place". */
    private static void faultOfTheLatestRead() {
        LinkLibrary x = new LinkLibrary();
        Check.feed(x, "//h:65536");
        Check.fails("the first", Check.BAD_ARGUMENT, () -> x.read(0));
        told(x, "5@4");
        Check.feed(x, "a%");
        told(x, "5@4");
        Check.fails("the second", Check.BAD_ARGUMENT, () -> x.read(1));
        told(x, "2@1");
        Check.feed(x, "b%");
        x.descend(0);
        x.normalise(1, 0, 31);
        Check.fails("no part", Check.BAD_ARGUMENT, () -> x.part(0, 7));
        told(x, "2@1");
    }

    /** "0 ... behind one without": also behind one of a link that is not there, which has no fault. */
    private static void faultBehindOneWithout() {
        LinkLibrary x = new LinkLibrary();
        Check.feed(x, "a%");
        Check.fails("a fault", Check.BAD_ARGUMENT, () -> x.read(0));
        x.read(0);
        told(x, "0@0");
        Check.feed(x, "a%");
        Check.fails("a fault", Check.BAD_ARGUMENT, () -> x.read(0));
        Check.feed(x, "a%");
        Check.fails("no link", Check.NO_LINK, () -> x.read(8));
        told(x, "0@0");
    }

    /** "The out has a link as it stands: how many bytes": nothing is left of what it had. */
    private static void writeTellsHowMany() {
        LinkLibrary x = Check.with("a".repeat(400), "HTTP://H:/%7e/..", "");
        Check.due("write 400", x.write(0), 400);
        Check.due("out", Check.wholeOut(x), "a".repeat(400));
        Check.due("write 16", x.write(1), 16);
        Check.due("as it stands", Check.wholeOut(x), "HTTP://H:/%7e/..");
        Check.due("write 0", x.write(2), 0);
        Check.due("an empty out", Check.wholeOut(x), "");
    }

    /** "The out has a part of it: 0 scheme, ... 6 fragment: how many bytes". */
    private static void partTellsHowMany() {
        String[] want = {"s", "u:v", "[::1]", "080", "/p:@", "q?/", "f?/"};
        LinkLibrary x = Check.with("s://u:v@[::1]:080/p:@?q?/#f?/", "a".repeat(400));
        for (int part = 0; part < 7; part++) {
            x.write(1);
            Check.due("part " + part, x.part(0, part), want[part].length());
            Check.due("text of part " + part, Check.wholeOut(x), want[part]);
        }
        Check.due("a part of 400", x.part(1, 4), 400);
    }

    /** "-1, and an empty out, when it is not there". */
    private static void partThatIsNotThere() {
        for (int part = 0; part < 7; part++) {
            LinkLibrary x = Check.with("", "//@:?#", "s:full");
            x.write(2);
            Check.due("part not there " + part, x.part(0, part), part == 4 ? 0 : -1);
            Check.due("an empty out by " + part, Check.wholeOut(x), "");
            x.write(2);
            Check.due("part there, but empty " + part, x.part(1, part), part == 0 ? -1 : 0);
            Check.due("an empty out, too, by " + part, Check.wholeOut(x), "");
        }
        LinkLibrary x = Check.with("//h");
        Check.due("a host without a user", x.part(0, 1), -1);
        Check.due("a host without a port", x.part(0, 3), -1);
    }

    /** "IllegalArgument: no such part." */
    private static void partThatIsNone() {
        LinkLibrary x = Check.with("s://u@h:1/p?q#f");
        for (int part : new int[] {-1, 7, 8, -7, Integer.MIN_VALUE, Integer.MAX_VALUE}) {
            Check.fails("part " + part, Check.BAD_ARGUMENT, () -> x.part(0, part));
        }
    }

    /** "What its host is: 0 there is none, 1 a name, 2 an address of four, 3 one of six, 4 of v." */
    private static void hostKinds() {
        String[] links = {"", "0", "s:/p", "0", "s:1.2.3.4", "0", "//", "1", "//h", "1", "s://:1", "1", "//256.1.1.1", "1",
            "//0.0.0.0", "2", "s://u@1.2.3.4:5", "2", "//[::]", "3", "//[1:2:3:4:5:6:7.8.9.0]", "3", "//[v0.:]", "4"};
        for (int i = 0; i < links.length; i += 2) {
            Check.due("host of " + links[i], "" + Check.with(links[i]).host(0), links[i + 1]);
        }
    }

    private static void address(String host, int... want) {
        LinkLibrary x = Check.with("//[1:2:3:4:5:6:7:8]", "s://u@" + host + ":1/p");
        for (int i = 0; i < want.length; i++) {
            x.address(0, 3);
            Check.due("address " + i + " of " + host, x.address(1, i), want[i]);
        }
    }

    /** "of four i = 0". */
    private static void addressOfFour() {
        address("1.2.3.4", 0x01020304);
        address("0.0.0.0", 0);
        address("0.0.0.255", 255);
    }

    /** "of six 0 .. 3, the highest first". */
    private static void addressOfSix() {
        address("[1:2:3:4:5:6:7:8]", 0x00010002, 0x00030004, 0x00050006, 0x00070008);
        address("[::]", 0, 0, 0, 0);
        address("[::8]", 0, 0, 0, 8);
        address("[1::]", 0x00010000, 0, 0, 0);
        address("[1::8]", 0x00010000, 0, 0, 8);
        address("[1:2::8]", 0x00010002, 0, 0, 8);
        address("[1:2:3::7:8]", 0x00010002, 0x00030000, 0, 0x00070008);
        address("[::1.2.3.4]", 0, 0, 0, 0x01020304);
        address("[1:2:3:4:5:6:7.8.9.10]", 0x00010002, 0x00030004, 0x00050006, 0x0708090A);
        address("[::6:1.2.3.4]", 0, 0, 6, 0x01020304);
    }

    /** "32 bits of an address": the highest one is a sign of Java's int. */
    private static void addressBits() {
        address("255.255.255.255", -1);
        address("128.0.0.0", Integer.MIN_VALUE);
        address("127.255.255.255", Integer.MAX_VALUE);
        address("[8000::7fff:FFFF:ffff:ffFF]", Integer.MIN_VALUE, 0, Integer.MAX_VALUE, -1);
        address("[::ffff:255.0.0.1]", 0, 0, 0xFFFF, 0xFF000001);
    }

    /** "IllegalState: its host is none": before its bits are asked for. */
    private static void addressOfNone() {
        for (String text : new String[] {"", "s:1.2.3.4", "//", "//h", "//1.2.3", "//1.2.3.256", "//01.2.3.4", "//[v1.a]"}) {
            LinkLibrary x = Check.with(text);
            for (int i : new int[] {0, 1, -1, 4}) {
                Check.fails("address " + i + " of " + text, Check.BAD_STATE, () -> x.address(0, i));
            }
        }
    }

    /** "IllegalArgument: no such bits." */
    private static void addressWithoutSuchBits() {
        LinkLibrary x = Check.with("//1.2.3.4", "//[::1.2.3.4]");
        for (int i : new int[] {-1, 4, 5, Integer.MIN_VALUE, Integer.MAX_VALUE, 1 << 30, 1 << 31}) {
            Check.fails("of four " + i, Check.BAD_ARGUMENT, () -> x.address(0, i));
            Check.fails("of six " + i, Check.BAD_ARGUMENT, () -> x.address(1, i));
        }
        for (int i = 1; i < 4; i++) {
            int bits = i;
            Check.fails("of four " + i, Check.BAD_ARGUMENT, () -> x.address(0, bits));
            Check.due("of six " + i, x.address(1, i), i == 3 ? 0x01020304 : 0);
        }
    }

    private static void port(String text, int want) {
        Check.due("port of " + text, Check.with(text).port(0), want);
    }

    /** "The number of its port": from 0 to 65535, zeros before it or not. */
    private static void portNumbers() {
        port("//h:0", 0);
        port("//h:00000", 0);
        port("//h:1", 1);
        port("//h:080", 80);
        port("//h:00009", 9);
        port("//h:65535", 65535);
        port("s://u:2@[::3]:4/:5?:6#:7", 4);
    }

    /** "-1 without one, or when it is empty". */
    private static void portThatIsNone() {
        port("", -1);
        port("s:80", -1);
        port("//h", -1);
        port("//u:1@h", -1);
        port("//[::1]", -1);
        port("//h/:1", -1);
        port("//h:", -1);
        port("//:", -1);
        port("//[::1]:", -1);
    }

    /** "Eight bytes of the out, from 8 i on, the first one lowest". */
    private static void wordsFromTheFirst() {
        LinkLibrary x = Check.with("abcdefghijklmnop" + "q".repeat(376) + "rstuvwxy", "/" + "%ff".repeat(8));
        x.write(0);
        Check.due("word 0", x.word(0), 0x6867666564636261L);
        Check.due("word 1", x.word(1), 0x706F6E6D6C6B6A69L);
        Check.due("word 49", x.word(49), 0x7978777675747372L);
        x.segment(1, 0);
        Check.due("all ones", x.word(0), -1L);
    }

    /** "0 behind its end": within a word, too, and whatever was there. */
    private static void wordsBehindTheEnd() {
        LinkLibrary x = Check.with("a".repeat(400));
        for (int length = 0; length <= 16; length++) {
            x.write(0);
            Check.read(x, 1, "b".repeat(length));
            x.write(1);
            for (int i = 0; i < 3; i++) {
                int bytes = Math.max(0, Math.min(8, length - 8 * i));
                long want = bytes == 0 ? 0 : 0x6262626262626262L >>> 8 * (8 - bytes);
                Check.due("word " + i + " of " + length, x.word(i), want);
            }
        }
    }

    /** "0 when there are none": also where 8 i is beyond an int. */
    private static void wordsThatAreNone() {
        LinkLibrary x = Check.with("a".repeat(400));
        x.write(0);
        for (int i : new int[] {-1, 50, 51, -50, 1 << 28, 1 << 29, 1 << 30, 1 << 31, (1 << 29) + 1, -(1 << 29), Integer.MAX_VALUE}) {
            Check.due("word " + i, x.word(i), 0L);
        }
    }

    /** "IndexOutOfBounds: there is no such link", for the promises 3 and 5 .. 9. */
    private static void linksThatAreNone() {
        LinkLibrary x = new LinkLibrary();
        for (int link : OUTSIDE) {
            Check.fails("read " + link, Check.NO_LINK, () -> x.read(link));
            Check.fails("write " + link, Check.NO_LINK, () -> x.write(link));
            Check.fails("part " + link, Check.NO_LINK, () -> x.part(link, 0));
            Check.fails("host " + link, Check.NO_LINK, () -> x.host(link));
            Check.fails("address " + link, Check.NO_LINK, () -> x.address(link, 0));
            Check.fails("port " + link, Check.NO_LINK, () -> x.port(link));
        }
    }
}
