/** Each sentence of "What it is" and "Terms" that names an edge, above a test of its own. */
public final class TermsTest {
    public static void main(String[] args) {
        objectIsUsedFor512Calls();
        bytesAreToldByTheirCodes();
        tapeHas400AtMost();
        tapeIsUsedUpByRead();
        tapeIsUsedUpByDescend();
        tapeIsUsedUpByNobodyElse();
        tapeThatWasUsedUpIsForgotten();
        linksAreAtFirstEmpty();
        outIsAtFirstEmpty();
        linkHasAtMost400Bytes();
        partThatIsThereMayBeEmpty();
        lengthIsThatOfAll();
        linkResolvedOfItself();
        linkNormalisedOfItself();
        linkRelatedOfItself();
        Check.end();
    }

    /** "An object is used for at most 512 calls after it has been made". */
    private static void objectIsUsedFor512Calls() {
        LinkLibrary x = Check.with("s:/" + "a/".repeat(198), "s:/b");
        int calls = 53;
        for (; calls < 511; calls++) {
            Check.due("call " + calls, x.relate(2, 0, 1), 2);
        }
        Check.due("call 512", x.write(2), 2);
        LinkLibrary y = new LinkLibrary();
        for (int i = 0; i < 511; i++) {
            y.normalise(i % 8, (i + 1) % 8, i % 32);
        }
        Check.due("another call 512", y.feed('a', 1), 1);
    }

    /** "BYTES are told by their codes": the great ones as well, which a byte of Java counts below 0. */
    private static void bytesAreToldByTheirCodes() {
        for (int code = 0; code < 256; code++) {
            LinkLibrary x = new LinkLibrary();
            Check.read(x, 0, String.format("/%%%02x", code));
            Check.due("a segment of code " + code, x.segment(0, 0), 1);
            Check.due("its byte", x.word(0), (long) code);
            x.feed(code, 1);
            boolean free = Check.FREE.indexOf(code) >= 0;
            Check.due("descend by code " + code, x.descend(1), free ? 1 : 3);
            Check.due("its text", Check.text(x, 1), free ? "" + (char) code : String.format("%%%02X", code));
        }
    }

    /** "THE TAPE has 400 at most". */
    private static void tapeHas400AtMost() {
        LinkLibrary x = new LinkLibrary();
        for (int i = 1; i <= 50; i++) {
            Check.due("feed to " + 8 * i, x.feed(0x6867666564636261L, 8), 8 * i);
        }
        for (int n = 1; n <= 8; n++) {
            int more = n;
            Check.fails("feed to " + (400 + n), Check.BAD_STATE, () -> x.feed(0, more));
        }
        Check.due("all of it is read", x.read(0), 400);
        Check.due("as it came", Check.text(x, 0), "abcdefgh".repeat(50));
    }

    /** "who reads it uses it up, whatever comes of it": a link, a fault, or no link there. */
    private static void tapeIsUsedUpByRead() {
        LinkLibrary x = new LinkLibrary();
        Check.read(x, 0, "abc");
        Check.due("behind a link", x.feed('a', 1), 1);
        Check.feed(x, " ");
        Check.fails("a fault", Check.BAD_ARGUMENT, () -> x.read(0));
        Check.due("behind a fault", x.feed('a', 1), 1);
        Check.fails("no link 8", Check.NO_LINK, () -> x.read(8));
        Check.due("behind no link 8", x.feed('a', 1), 1);
        Check.fails("no link -1", Check.NO_LINK, () -> x.read(-1));
        Check.due("behind no link -1", x.read(0), 0);
        Check.due("an empty tape makes an empty link", Check.text(x, 0), "");
    }

    /** "who reads it uses it up, whatever comes of it": a segment, too many bytes, or no link there. */
    private static void tapeIsUsedUpByDescend() {
        LinkLibrary x = new LinkLibrary();
        Check.feed(x, "abc");
        Check.due("a segment", x.descend(0), 3);
        Check.due("behind a segment", x.feed('a', 1), 1);
        Check.feed(x, "a".repeat(399));
        Check.fails("too many bytes", Check.UNSUPPORTED, () -> x.descend(0));
        Check.due("behind too many bytes", x.feed('a', 1), 1);
        Check.fails("no link 8", Check.NO_LINK, () -> x.descend(8));
        Check.due("behind no link 8", x.feed('a', 1), 1);
        Check.fails("no link -1", Check.NO_LINK, () -> x.descend(-1));
        Check.due("behind no link -1", x.descend(1), 0);
        Check.due("an empty tape is an empty segment", x.descend(0), 4);
    }

    /** "who reads it uses it up": the others leave it. */
    private static void tapeIsUsedUpByNobodyElse() {
        LinkLibrary x = Check.with("s://h/a?b", "s://h/c");
        Check.feed(x, "tape");
        x.fault(true);
        x.write(0);
        x.part(0, 4);
        x.host(0);
        x.port(0);
        x.resolve(2, 0, 1, true);
        x.normalise(2, 0, 31);
        x.relate(2, 0, 1);
        x.same(0, 1, 31);
        x.segments(0);
        x.segment(0, 0);
        x.ascend(2);
        x.pairs(0);
        x.pair(0, 0, false);
        x.word(0);
        Check.due("the tape is as it was", x.read(3), 4);
        Check.due("its text", Check.text(x, 3), "tape");
    }

    /** "who reads it uses it up": what stood there before counts no more, though the next tape is shorter. */
    private static void tapeThatWasUsedUpIsForgotten() {
        String[] rows = {"a%41", "a%4", "2@1", "a%41", "a%", "2@1", "//[::1]", "//[::1", "4@2", "//[v1.a]", "//[v1.", "4@2",
            "//h:65536", "//h:6553", "0@0", "//h:123456", "//h:12345", "0@0", "a:b", "a", "0@0", "//h/..", "//h/.", "0@0"};
        for (int i = 0; i < rows.length; i += 3) {
            LinkLibrary x = new LinkLibrary();
            Check.feed(x, rows[i]);
            tryToRead(x);
            Check.feed(x, rows[i + 1]);
            tryToRead(x);
            Check.due(rows[i + 1] + " behind " + rows[i], x.fault(false) + "@" + x.fault(true), rows[i + 2]);
            boolean taken = x.fault(false) == 0;
            Check.due("link 0 then", Check.text(x, 0), taken ? rows[i + 1] : rows[i]);
        }
    }

    private static void tryToRead(LinkLibrary x) {
        try {
            x.read(0);
        } catch (IllegalArgumentException e) {
            Check.due("a fault is told", x.fault(false) > 0, true);
        }
    }

    /** "LINKS 0 .. 7 are references, at first empty ones." */
    private static void linksAreAtFirstEmpty() {
        LinkLibrary x = Check.with("seven");
        for (int link = 1; link < 8; link++) {
            Check.due("link " + link, Check.text(x, link), "");
            Check.due("its path is there", x.part(link, 4), 0);
            Check.due("it is the empty one", x.same(link, 1, 0), true);
        }
        Check.read(x, 7, "last");
        Check.due("the first link", Check.text(x, 0), "seven");
        Check.due("the last link", Check.text(x, 7), "last");
    }

    /** "THE OUT is a row of bytes, at first empty." */
    private static void outIsAtFirstEmpty() {
        LinkLibrary x = Check.with("a".repeat(400));
        for (int i = 0; i <= 50; i++) {
            Check.due("word " + i, x.word(i), 0L);
        }
    }

    /** "A link has at most 400 bytes in all": as many as the tape, whatever parts they are of. */
    private static void linkHasAtMost400Bytes() {
        String most = "a".repeat(398);
        for (String text : new String[] {most + "bc", most + ":b", "//" + most, "//" + most.substring(1) + "@", "/" + most + "b",
            "?" + most + "b", "#" + most + "b", "s:" + most, "//:1/" + most.substring(3)}) {
            LinkLibrary x = new LinkLibrary();
            Check.due("read " + text, Check.read(x, 0, text), 400);
            Check.due("write " + text, Check.text(x, 0), text);
            Check.due("normalise " + text, x.normalise(1, 0, 0), 400);
            Check.due("write it once more", Check.text(x, 1), text);
        }
    }

    /** "A part that is there may be empty (but a scheme)." */
    private static void partThatIsThereMayBeEmpty() {
        LinkLibrary x = Check.with("//@:?#", "s:");
        for (int part = 1; part < 7; part++) {
            Check.due("part " + part, x.part(0, part), 0);
        }
        Check.due("no scheme", x.part(0, 0), -1);
        Check.due("an empty path behind a scheme", x.part(1, 4), 0);
        Check.fault(":", "1@0");
    }

    /** "Its LENGTH is that of all this": with the colons, //, @, ? and #. */
    private static void lengthIsThatOfAll() {
        String whole = "s://u@h:1/p?q#f";
        for (String text : new String[] {whole, "", "s:", "//", "//@", "//:", "?", "#", "//@:?#", "s://@:?#", "/", "p"}) {
            LinkLibrary x = Check.with("", whole);
            int length = text.length();
            Check.due("read " + text, Check.read(x, 0, text), length);
            Check.due("write " + text, x.write(0), length);
            Check.due("normalise " + text, x.normalise(2, 0, 0), length);
            Check.due("normalise it again " + text, x.normalise(2, 2, 0), length);
        }
        LinkLibrary x = Check.with(whole, "//@:?#");
        Check.due("resolve", x.resolve(2, 0, 1, true), 8);
        Check.due("ascend", x.ascend(0), 14);
        Check.due("descend", x.descend(0), 14);
        Check.due("relate", x.relate(3, 0, 2), 6);
    }

    /** "A link may be made of itself: what others were before counts then": as base, as reference, as both. */
    private static void linkResolvedOfItself() {
        LinkLibrary x = Check.with("s://u@h:1/a/b?q#e", "../c/./d?r#f");
        Check.due("onto the reference", x.resolve(1, 0, 1, true), 17);
        Check.due("its text", Check.text(x, 1), "s://u@h:1/c/d?r#f");
        Check.read(x, 1, "../c#f");
        Check.due("onto the base", x.resolve(0, 0, 1, true), 13);
        Check.due("its text", Check.text(x, 0), "s://u@h:1/c#f");
        Check.read(x, 2, "s:a/./b?q#f");
        Check.due("a base against itself", x.resolve(2, 2, 2, true), 9);
        Check.due("its text", Check.text(x, 2), "s:a/b?q#f");
        Check.read(x, 2, "s:a/./b?q#f");
        Check.due("not strictly", x.resolve(2, 2, 2, false), 11);
        Check.due("its text", Check.text(x, 2), "s:a/a/b?q#f");
    }

    /** "A link may be made of itself". */
    private static void linkNormalisedOfItself() {
        LinkLibrary x = Check.with("HTTP://H:80/%7e/../a");
        Check.due("normalised", x.normalise(0, 0, 31), 10);
        Check.due("its text", Check.text(x, 0), "http://h/a");
        Check.due("the same as itself", x.same(0, 0, 31), true);
    }

    /** "A link may be made of itself": as base, as target, as both. */
    private static void linkRelatedOfItself() {
        LinkLibrary x = Check.with("s://h/a/b?q#e", "s://h/a/c?r#f");
        Check.due("onto the target", x.relate(1, 0, 1), 5);
        Check.due("its text", Check.text(x, 1), "c?r#f");
        Check.read(x, 1, "s://h/d/c");
        Check.due("onto the base", x.relate(0, 0, 1), 4);
        Check.due("its text", Check.text(x, 0), "/d/c");
        Check.due("onto both", x.relate(1, 1, 1), 0);
        Check.due("its text", Check.text(x, 1), "");
    }
}
