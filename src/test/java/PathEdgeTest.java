/** Each sentence of the promises 14 .. 19 that names an edge, above a test of its own. */
public final class PathEdgeTest {
    private static final int[] FAR = {Integer.MIN_VALUE, -2, -1, 1000, Integer.MAX_VALUE};

    public static void main(String[] args) {
        segmentsCounted();
        segmentsOfAnEmptyPath();
        segmentsFromTheFirst();
        segmentWithItsCodes();
        segmentThatIsNone();
        descendBehindTheLast();
        descendInThePlaceOfAnEmptyOne();
        descendByCodes();
        descendFromAnEmptyPath();
        descendByAnEmptyTape();
        descendTooFar();
        ascendBehindTheLastSlash();
        ascendWithNothingBehind();
        ascendWithoutSlash();
        ascendFromASlash();
        ascendTellsTheLength();
        pairsCounted();
        pairsOfNoQuery();
        pairsByName();
        pairsByValue();
        pairWithoutValue();
        pairThatIsNone();
        manyPieces();
        linksThatAreNone();
        Check.end();
    }

    private static void count(String text, int want) {
        Check.due("segments of " + text, Check.with(text).segments(0), want);
    }

    /** "one more than it has / but for one at its beginning". */
    private static void segmentsCounted() {
        count("a", 1);
        count("/a", 1);
        count("/", 1);
        count("a/", 2);
        count("/a/", 2);
        count("a/b", 2);
        count("s:a/b", 2);
        count("//h//", 2);
        count("//h///", 3);
        count("/a//b", 3);
        count("./..", 2);
        count("s:/a%2fb", 1);
        count("a?/b/c#/d/e", 1);
        count("a/".repeat(200), 201);
    }

    /** "0 for an empty one". */
    private static void segmentsOfAnEmptyPath() {
        count("", 0);
        count("s:", 0);
        count("//h", 0);
        count("//a@b:1?c/d#e/f", 0);
    }

    private static void segment(String text, int i, String want) {
        LinkLibrary x = Check.with(text, "t:full/of/other/bytes");
        x.write(1);
        Check.due("length of segment " + i + " of " + text, x.segment(0, i), want.length());
        Check.due("segment " + i + " of " + text, Check.wholeOut(x), want);
    }

    /** "The out has segment i, from 0 on": empty ones, too. */
    private static void segmentsFromTheFirst() {
        segment("a", 0, "a");
        segment("/a", 0, "a");
        segment("/", 0, "");
        segment("a/", 0, "a");
        segment("a/", 1, "");
        segment("//h//", 0, "");
        segment("//h//", 1, "");
        segment("//h//b", 1, "b");
        segment("/a//b", 1, "");
        segment("/a//b", 2, "b");
        segment("s:a:b/c@d?e/f#g/h", 0, "a:b");
        segment("s:a:b/c@d?e/f#g/h", 1, "c@d");
        segment("a".repeat(400), 0, "a".repeat(400));
    }

    /** "with its codes as the bytes that they tell": once, and a / among them is none. */
    private static void segmentWithItsCodes() {
        segment("/a%2fb/c", 0, "a/b");
        segment("/a%2fb/c", 1, "c");
        segment("%2F/%2f%2F", 1, "//");
        segment("/%2541%25", 0, "%41%");
        segment("/%41%6a%C3%a9%fF", 0, "Aj\u00c3\u00a9\u00ff");
        segment("/%20%21%7E%7f%01", 0, " !~\u007f\u0001");
        segment("/%61", 0, "a");
        LinkLibrary x = Check.with("/%00%00a");
        Check.due("bytes of code 0", x.segment(0, 0), 3);
        Check.due("their word", x.word(0), 0x610000L);
    }

    /** "IllegalArgument: there is none." */
    private static void segmentThatIsNone() {
        String[] texts = {"", "s:", "//h", "/", "a", "/a", "a/b", "//h//"};
        int[] counts = {0, 0, 0, 1, 1, 1, 2, 2};
        for (int k = 0; k < texts.length; k++) {
            String what = " of " + texts[k];
            LinkLibrary x = Check.with(texts[k]);
            int count = counts[k];
            for (int i : FAR) {
                Check.fails("segment " + i + what, Check.BAD_ARGUMENT, () -> x.segment(0, i));
            }
            Check.fails("segment " + count + what, Check.BAD_ARGUMENT, () -> x.segment(0, count));
            if (count > 0) {
                Check.due("the last segment" + what, x.segment(0, count - 1) >= 0, true);
            }
        }
    }

    private static void descend(String text, String name, String want) {
        LinkLibrary x = Check.with(text);
        Check.feed(x, name);
        Check.due("length of " + text + " with " + name, x.descend(0), want.length());
        Check.due(text + " with " + name, Check.text(x, 0), want);
    }

    /** "The tape is one more segment of its path, behind the last one". */
    private static void descendBehindTheLast() {
        descend("a", "b", "a/b");
        descend("/a", "b", "/a/b");
        descend("s://u@h:1/a?q#f", "b", "s://u@h:1/a/b?q#f");
        descend("s:a", "b", "s:a/b");
        descend("a//b", "c", "a//b/c");
        descend("..", "..", "../..");
    }

    /** "or in the place of a last one that is empty". */
    private static void descendInThePlaceOfAnEmptyOne() {
        descend("/", "b", "/b");
        descend("a/", "b", "a/b");
        descend("/a/", "b", "/a/b");
        descend("//h/", "b", "//h/b");
        descend("//h//", "b", "//h//b");
        descend("s:/?q", "b", "s:/b?q");
    }

    /** "bytes that are not free come as codes with great letters". */
    private static void descendByCodes() {
        descend("a", "b/c", "a/b%2Fc");
        descend("a", "%41", "a/%2541");
        descend("a", "b:@!$&'()*+,;=", "a/b%3A%40%21%24%26%27%28%29%2A%2B%2C%3B%3D");
        descend("", "a:b", "a%3Ab");
        descend("", "/", "%2F");
        descend("a", "\u00ab\u00cd\u00ef\n", "a/%AB%CD%EF%0A");
        descend("a", Check.FREE, "a/" + Check.FREE);
    }

    /** "an empty path begins with / then, if there is an authority". */
    private static void descendFromAnEmptyPath() {
        descend("//h", "a", "//h/a");
        descend("//", "a", "///a");
        descend("s://h:?q#f", "a", "s://h:/a?q#f");
        descend("", "a", "a");
        descend("s:", "a", "s:a");
        descend("?q#f", "a", "a?q#f");
    }

    /** "one more segment": an empty tape is an empty one. */
    private static void descendByAnEmptyTape() {
        descend("", "", "");
        descend("s:", "", "s:");
        descend("//h", "", "//h/");
        descend("/", "", "/");
        descend("a/", "", "a/");
        descend("a", "", "a/");
        descend("//h//", "", "//h//");
    }

    private static void descendTo(int length, String text, String name) {
        LinkLibrary x = Check.with(text);
        Check.feed(x, name);
        String what = text.length() + " and " + name.length() + " bytes";
        if (length <= 400) {
            Check.due(what, x.descend(0), length);
            Check.due(what + ", written", x.write(0), length);
            return;
        }
        Check.fails(what, Check.UNSUPPORTED, () -> x.descend(0));
        Check.due(what + ": the link stays", Check.text(x, 0), text);
        Check.due(what + ": the tape does not", x.descend(1), 0);
    }

    /** "UnsupportedOperation: it would have more than 400 bytes": the / and the codes with it. */
    private static void descendTooFar() {
        descendTo(400, "a".repeat(398), "b");
        descendTo(401, "a".repeat(398), "bb");
        descendTo(400, "a".repeat(397) + "/", "bb");
        descendTo(401, "a".repeat(397) + "/", "bbb");
        descendTo(400, "a".repeat(399), "");
        descendTo(401, "a".repeat(400), "");
        descendTo(400, "a".repeat(399) + "/", "");
        descendTo(401, "a".repeat(399) + "/", "b");
        descendTo(400, "a".repeat(396), " ");
        descendTo(401, "a".repeat(397), " ");
        descendTo(399, "", "\u00ff".repeat(133));
        descendTo(402, "", "\u00ff".repeat(134));
        descendTo(1200, "", "\u00ff".repeat(400));
        descendTo(400, "", "a".repeat(400));
        descendTo(400, "//", "a".repeat(397));
        descendTo(401, "//", "a".repeat(398));
        descendTo(400, "?" + "q".repeat(398), "a");
        descendTo(401, "?" + "q".repeat(398), "aa");
    }

    private static void ascend(String text, String want) {
        LinkLibrary x = Check.with(text);
        Check.due("length above " + text, x.ascend(0), want.length());
        Check.due("above " + text, Check.text(x, 0), want);
    }

    /** "What stands behind the last / of its path goes". */
    private static void ascendBehindTheLastSlash() {
        ascend("a/b", "a/");
        ascend("/a", "/");
        ascend("/a/b", "/a/");
        ascend("//h/a", "//h/");
        ascend("//h//a", "//h//");
        ascend("s://u@h:1/a/b?q/r#f/g", "s://u@h:1/a/?q/r#f/g");
        ascend("a/..", "a/");
    }

    /** "and if there was nothing, that / and what is before it up to the next /". */
    private static void ascendWithNothingBehind() {
        ascend("a/", "");
        ascend("a/b/", "a/");
        ascend("/a/", "/");
        ascend("/a/b/", "/a/");
        ascend("a//", "a/");
        ascend("/a//", "/a/");
        ascend("//h//", "//h/");
        ascend("s:a/?q", "s:?q");
        ascend("//h/a/b/#f", "//h/a/#f");
    }

    /** Where there is no /, all stands behind the last one. */
    private static void ascendWithoutSlash() {
        ascend("a", "");
        ascend("s:a", "s:");
        ascend("s:a:b?q", "s:?q");
        ascend("", "");
        ascend("//h", "//h");
        ascend("s://h?q", "s://h?q");
    }

    /** "a path that began with / does still". */
    private static void ascendFromASlash() {
        ascend("/", "/");
        ascend("//h/", "//h/");
        ascend("s:/?q", "s:/?q");
        LinkLibrary x = Check.with("//h/a/b/c");
        for (int length : new int[] {8, 6, 4, 4, 4}) {
            Check.due("up to " + length, x.ascend(0), length);
        }
        Check.due("at the top", Check.text(x, 0), "//h/");
    }

    /** "its length". */
    private static void ascendTellsTheLength() {
        LinkLibrary x = Check.with("a/".repeat(200));
        for (int length = 398; length >= 0; length -= 2) {
            Check.due("up to " + length, x.ascend(0), length);
        }
        Check.due("and no more", x.ascend(0), 0);
    }

    private static void countPairs(String text, int want) {
        Check.due("pairs of " + text, Check.with(text).pairs(0), want);
    }

    /** "How many PAIRS its query has, what is between & (of an empty query one)". */
    private static void pairsCounted() {
        countPairs("?", 1);
        countPairs("?a", 1);
        countPairs("?&", 2);
        countPairs("?&&", 3);
        countPairs("?a=1&b=2", 2);
        countPairs("?a=1&", 2);
        countPairs("?a;b", 1);
        countPairs("?a%26b", 1);
        countPairs("?" + "&".repeat(399), 400);
    }

    /** "0 without a query". */
    private static void pairsOfNoQuery() {
        countPairs("", 0);
        countPairs("s://h/a&b#c&d", 0);
        countPairs("#?a&b", 0);
    }

    private static void pair(String text, int i, boolean value, String want) {
        LinkLibrary x = Check.with(text, "t:full?of=other&bytes");
        x.write(1);
        String what = (value ? "value " : "name ") + i + " of " + text;
        Check.due("length of " + what, x.pair(0, i, value), want == null ? -1 : want.length());
        Check.due(what, Check.wholeOut(x), want == null ? "" : want);
    }

    /** "the name of pair i, what is before its first =, ... with codes as their bytes". */
    private static void pairsByName() {
        pair("?", 0, false, "");
        pair("?a", 0, false, "a");
        pair("?a=", 0, false, "a");
        pair("?=a", 0, false, "");
        pair("?a=b=c", 0, false, "a");
        pair("?a&b=c&", 1, false, "b");
        pair("?a&b=c&", 2, false, "");
        pair("?&a", 0, false, "");
        pair("?a%3Db%26%2541=c", 0, false, "a=b&%41");
        pair("??a=b", 0, false, "?a");
        pair("?a&b=c", 0, false, "a");
        pair("?" + "a".repeat(399), 0, false, "a".repeat(399));
    }

    /** "or (on value) what is behind it". */
    private static void pairsByValue() {
        pair("?a=", 0, true, "");
        pair("?=", 0, true, "");
        pair("?=a", 0, true, "a");
        pair("?a=b=c", 0, true, "b=c");
        pair("?a==", 0, true, "=");
        pair("?a=b&c=d#e=f", 1, true, "d");
        pair("?a=b&c=d", 0, true, "b");
        pair("?a=%3d%26%2541%fF", 0, true, "=&%41\u00ff");
        pair("?a=/?:@+", 0, true, "/?:@+");
    }

    /** "-1, and an empty out, for a value without =". */
    private static void pairWithoutValue() {
        pair("?", 0, true, null);
        pair("?a", 0, true, null);
        pair("?&", 1, true, null);
        pair("?a&b=c", 0, true, null);
        pair("?b=c&a", 1, true, null);
        pair("?a%3Db", 0, true, null);
    }

    /** "IllegalArgument: there is no such pair." */
    private static void pairThatIsNone() {
        String[] texts = {"", "a&b", "#&", "?", "?a", "?&", "?a=b&c"};
        int[] counts = {0, 0, 0, 1, 1, 2, 2};
        for (int k = 0; k < texts.length; k++) {
            String what = " of " + texts[k];
            LinkLibrary x = Check.with(texts[k]);
            int count = counts[k];
            for (int i : FAR) {
                Check.fails("name " + i + what, Check.BAD_ARGUMENT, () -> x.pair(0, i, false));
                Check.fails("value " + i + what, Check.BAD_ARGUMENT, () -> x.pair(0, i, true));
            }
            Check.fails("name " + count + what, Check.BAD_ARGUMENT, () -> x.pair(0, count, false));
            Check.fails("value " + count + what, Check.BAD_ARGUMENT, () -> x.pair(0, count, true));
            if (count > 0) {
                Check.due("the last pair" + what, x.pair(0, count - 1, false) >= 0, true);
            }
        }
    }

    /** "segment i", "pair i": as many as 400 bytes can hold. */
    private static void manyPieces() {
        LinkLibrary x = Check.with("//h" + "/".repeat(396) + "z", "?" + "&".repeat(398) + "z");
        Check.due("segments", x.segments(0), 396);
        Check.due("the last segment but one", x.segment(0, 394), 0);
        Check.due("the last segment", x.segment(0, 395), 1);
        Check.due("its byte", x.word(0), 0x7AL);
        Check.fails("one more", Check.BAD_ARGUMENT, () -> x.segment(0, 396));
        Check.due("pairs", x.pairs(1), 399);
        Check.due("the last pair but one", x.pair(1, 397, false), 0);
        Check.due("the last pair", x.pair(1, 398, false), 1);
        Check.fails("one more pair", Check.BAD_ARGUMENT, () -> x.pair(1, 399, false));
    }

    /** "IndexOutOfBounds: there is no such link". */
    private static void linksThatAreNone() {
        LinkLibrary x = new LinkLibrary();
        for (int link : new int[] {-1, 8, Integer.MIN_VALUE, Integer.MAX_VALUE}) {
            Check.fails("segments " + link, Check.NO_LINK, () -> x.segments(link));
            Check.fails("segment " + link, Check.NO_LINK, () -> x.segment(link, 0));
            Check.fails("descend " + link, Check.NO_LINK, () -> x.descend(link));
            Check.fails("ascend " + link, Check.NO_LINK, () -> x.ascend(link));
            Check.fails("pairs " + link, Check.NO_LINK, () -> x.pairs(link));
            Check.fails("pair " + link, Check.NO_LINK, () -> x.pair(link, 0, false));
        }
    }
}
