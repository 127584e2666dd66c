/** Each sentence of promise 12, relate, that names an edge, above a test of its own. */
public final class RelateEdgeTest {
    public static void main(String[] args) {
        fragmentAlone();
        queryAndFragment();
        stepsUp();
        longestBeginning();
        pointBeforeASlash();
        pointBeforeNothing();
        pointBeforeAColon();
        noPointBehindStepsUp();
        wholePath();
        allButTheScheme();
        allOfIt();
        shortest();
        firstOfEqualOnes();
        sameReferencesReadAgain();
        allPartsByteByByte();
        withoutScheme();
        noneOfThese();
        longOnes();
        linksThatAreNone();
        Check.end();
    }

    private static void relate(String base, String target, String want) {
        LinkLibrary x = Check.with(base, target, "t://v@i:2/o?r#g");
        String what = target + " from " + base;
        Check.due("length of " + what, x.relate(2, 0, 1), want.length());
        Check.due(what, Check.text(x, 2), want);
        Check.due("its base", Check.text(x, 0), base);
        Check.due("its target", Check.text(x, 1), target);
        x.resolve(3, 0, 2, true);
        Check.due("resolved again, " + what, Check.text(x, 3), target);
    }

    /** "the target's fragment alone": an empty one, and none. */
    private static void fragmentAlone() {
        relate("s://h/a?q", "s://h/a?q#f", "#f");
        relate("s://h/a?q", "s://h/a?q#", "#");
        relate("s://h/a?q", "s://h/a?q", "");
        relate("s://h/a?q#e", "s://h/a?q", "");
        relate("s://h/a?q#e", "s://h/a?q#e", "#e");
        relate("s:", "s:", "");
        relate("s:", "s:#", "#");
        relate("s://h/./a", "s://h/./a#f", "#f");
    }

    /** "its query and fragment": the base's query can't go so. */
    private static void queryAndFragment() {
        relate("s://h/a?q", "s://h/a?r", "?r");
        relate("s://h/a?q", "s://h/a?r#f", "?r#f");
        relate("s://h/a", "s://h/a?", "?");
        relate("s://h/a?q", "s://h/a?", "?");
        relate("s://h/../a", "s://h/../a?r", "?r");
        relate("s:?q", "s:?r", "?r");
        relate("s://h/a?q", "s://h/a", "a");
        relate("s://hh/?q", "s://hh/", "/");
    }

    /** "as many ../ as the base's path has / behind the longest beginning that both paths have". */
    private static void stepsUp() {
        relate("s://h/aaaaaaaa/b", "s://h/aaaaaaaa/c", "c");
        relate("s://h/aaaaaaaa/b/", "s://h/aaaaaaaa/c", "../c");
        relate("s://h/aaaaaaaa/b/c", "s://h/aaaaaaaa/c", "../c");
        relate("s://h/aaaaaaaa/b/c/d", "s://h/aaaaaaaa/e?q#f", "../../e?q#f");
        relate("s://h/aaaaaaaa/b/c//d", "s://h/aaaaaaaa/e", "../../../e");
        relate("s://h/aaaaaaaa/b/c", "s://h/aaaaaaaa/", "../");
        relate("s://h/aaaaaaaa/b", "s://h/aaaaaaaa/b/", "b/");
        relate("s://h/aaaaaaaa/b", "s://h/aaaaaaaa/b/c/d", "b/c/d");
        relate("s:aaaa/bbbb/c", "s:aaaa/d", "../d");
        relate("s:a/b", "s:c/d", "s:c/d");
        relate("ss:a/b", "ss:c/d", "../c/d");
    }

    /** "that ends in / (or is empty)": half a segment is none, and neither is what ends with the base or target. */
    private static void longestBeginning() {
        relate("s://h/aaaaaaaa/bc", "s://h/aaaaaaaa/bd", "bd");
        relate("s://h/aaaaaaaa/bc/x", "s://h/aaaaaaaa/bd/y", "../bd/y");
        relate("s://h/aaaaaaaa/b", "s://h/aaaaaaaa/bb", "bb");
        relate("s://h/aaaaaaaa/bb", "s://h/aaaaaaaa/b", "b");
        relate("s://h/aaaaaaaa/b/", "s://h/aaaaaaaa/b", "../b");
        relate("ss:ab", "ss:ac", "ac");
        relate("ss:a", "ss:ab/c", "ab/c");
        relate("s://h", "s://h/a", "/a");
    }

    /** "the target's path behind that beginning, if that begins with / ..., with ./ before it". */
    private static void pointBeforeASlash() {
        relate("s://h/a", "s://h//b", ".//b");
        relate("s://h/aaaa/b", "s://h/aaaa//c", ".//c");
        relate("s://h/aaaa//", "s://h/aaaa///c", ".//c");
        relate("s://h/aaaa//b", "s://h/aaaa//c", "c");
    }

    /** "is empty ..., with ./ before it". */
    private static void pointBeforeNothing() {
        relate("s://h/aaaa/b", "s://h/aaaa/", "./");
        relate("s://h/aaaa/?q", "s://h/aaaa/", "./");
        relate("s://h/aaaa/b", "s://h/aaaa/?q", "./?q");
        relate("s://h/aaaa/b", "s://h/aaaa/#f", "./#f");
        relate("sss:a", "sss:", "./");
        relate("sss:a", "sss:?q", "./?q");
    }

    /** "or has a colon before its first /, with ./ before it". */
    private static void pointBeforeAColon() {
        relate("s://h/aaaa/b", "s://h/aaaa/c:d", "./c:d");
        relate("s://h/aaaa/b", "s://h/aaaa/:", "./:");
        relate("s://h/aaaa/b", "s://h/aaaa/c:/d", "./c:/d");
        relate("s://h/aaaa/b", "s://h/aaaa/c/d:", "c/d:");
        relate("s://h/aaaa/b", "s://h/aaaa/c?d:e", "c?d:e");
        relate("s://h/aaaa/b", "s://h/aaaa/c#d:e", "c#d:e");
        relate("sss:a", "sss:b:c", "./b:c");
    }

    /** "when there is no ../". */
    private static void noPointBehindStepsUp() {
        relate("s://h/aaaaaaaa/b/", "s://h/aaaaaaaa/c:d", "../c:d");
        relate("s://h/aaaaaaaa/b/", "s://h/aaaaaaaa//d", "..//d");
        relate("s://h/aaaaaaaa/b/", "s://h/aaaaaaaa/", "../");
        relate("sss:a/b", "sss:", "../");
    }

    /** "the target's path, query and fragment". */
    private static void wholePath() {
        relate("s://h/a/b/c/d", "s://h/e", "/e");
        relate("s://h/a/b/c/d", "s://h/", "/");
        relate("s://h/a/b/c/d?q", "s://h/e?r#f", "/e?r#f");
        relate("s:a", "s:/b", "/b");
        relate("s:a/b", "s:/.//b", "/.//b");
        relate("s://h", "s://h/", "/");
    }

    /** "all but its scheme": the authority stays whole. */
    private static void allButTheScheme() {
        relate("s://h/a", "s://g/a", "//g/a");
        relate("s://h/a", "s://h:/a", "//h:/a");
        relate("s://h/a", "s://@h/a", "//@h/a");
        relate("s://h/a", "s://H/a", "//H/a");
        relate("s://h/a", "s://u@g:1?q#f", "//u@g:1?q#f");
        relate("s://h/a", "s://h", "//h");
        relate("s:a", "s://", "//");
        relate("s://h//a", "s://g//a", "//g//a");
    }

    /** "all of it". */
    private static void allOfIt() {
        relate("s://h/a", "t://h/a", "t://h/a");
        relate("s://h/a", "S://h/a", "S://h/a");
        relate("s:a", "t:", "t:");
        relate("s://h/a", "s:/a", "s:/a");
        relate("s://h/a", "s:?q#f", "s:?q#f");
        relate("s:/a", "s:b:c", "s:b:c");
    }

    /** "the shortest of these". */
    private static void shortest() {
        relate("s://h/a/b/c", "s://h/d", "/d");
        relate("s://h/aa/b/c", "s://h/aa/d", "../d");
        relate("s:b/c", "s:a", "s:a");
        relate("s:b/c/d/e", "s:a", "s:a");
        relate("s://h/a/b/c/d/e", "s:/.//h", "s:/.//h");
        relate("s://h/a", "s://h//", ".//");
        relate("s://h/a/b", "s://h//", "..//");
    }

    /** "of equal ones the first". */
    private static void firstOfEqualOnes() {
        relate("s://h/a/b/c", "s://h/a/d", "../d");
        relate("s://h/a/b/", "s://h/a/", "../");
        relate("s:b", "s:", "./");
        relate("s://h/ab/c/d", "s://h/ab/", "../");
        relate("s:b", "s:c:d", "./c:d");
    }

    /** "(Only those that are, read again, the same references.)" */
    private static void sameReferencesReadAgain() {
        relate("sss:b", "sss:c:d", "./c:d");
        relate("s://hhhh/aa/b", "s://hhhh//c", "..//c");
        relate("s://hhhh", "s://hhhh//c", "//hhhh//c");
        relate("sss:/b", "sss:c:d", "sss:c:d");
    }

    /** "just the target (all parts, byte by byte)": what only looks alike is another one. */
    private static void allPartsByteByByte() {
        relate("s://h/a?q", "s://h/a?Q", "?Q");
        relate("s://h/%7e", "s://h/~", "~");
        relate("s://h/a", "s://h/A", "A");
        relate("http://h/", "http://h:80/", "//h:80/");
        relate("s://[::1]/", "s://[0::1]/", "//[0::1]/");
    }

    /** "IllegalState: the base or the target has no scheme." */
    private static void withoutScheme() {
        LinkLibrary x = Check.with("s://h/a", "//h/a");
        Check.fails("a base without one", Check.BAD_STATE, () -> x.relate(2, 1, 0));
        Check.fails("a target without one", Check.BAD_STATE, () -> x.relate(2, 0, 1));
        Check.fails("both without one", Check.BAD_STATE, () -> x.relate(2, 7, 7));
    }

    private static void none(String base, String target) {
        LinkLibrary x = Check.with(base, target, "keep");
        Check.fails(target + " from " + base, Check.UNSUPPORTED, () -> x.relate(2, 0, 1));
        Check.due("the link stays", Check.text(x, 2), "keep");
    }

    /** "UnsupportedOperation: none of these is it": as the target's path has dots, and the base's is another one. */
    private static void noneOfThese() {
        none("s://h/a", "s://h/./a");
        none("s://h/a/..", "s://h/a/../b");
        none("s://h/a/b", "s://h/a/..");
        none("s://h/a", "t://h/./a");
        none("s:a", "s:.");
        none("s:a", "s:../b");
        none("s://h/a/../b?q", "s://h/a/../b");
    }

    /** "Its length": up to 400, though a path on the way there may be longer. */
    private static void longOnes() {
        relate("s:/" + "a/".repeat(198), "s:/" + "b".repeat(397), "/" + "b".repeat(397));
        relate("s:" + "a/".repeat(199), "s:" + "b".repeat(398), "s:" + "b".repeat(398));
        relate("t:" + "a/".repeat(199), "s:" + "b/".repeat(199), "s:" + "b/".repeat(199));
        relate("s:" + "a/".repeat(199), "s:" + "a/".repeat(198), "../");
        relate("s:" + "a/".repeat(199), "s:" + "a/".repeat(100), "s:" + "a/".repeat(100));
        relate("ss:" + "a/".repeat(198), "ss:" + "a/".repeat(195), "../../../");
        relate("ss:" + "a".repeat(397), "ss:" + "a".repeat(397), "");
    }

    /** "IndexOutOfBounds: there is no such link". */
    private static void linksThatAreNone() {
        LinkLibrary x = Check.with("s:a");
        for (int link : new int[] {-1, 8, Integer.MIN_VALUE, Integer.MAX_VALUE}) {
            Check.fails("relate " + link, Check.NO_LINK, () -> x.relate(link, 0, 0));
            Check.fails("from " + link, Check.NO_LINK, () -> x.relate(0, link, 0));
            Check.fails("to " + link, Check.NO_LINK, () -> x.relate(0, 0, link));
        }
    }
}
