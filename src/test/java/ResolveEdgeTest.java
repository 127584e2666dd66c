/** Each sentence of promise 10, resolve, that names an edge, above a test of its own. */
public final class ResolveEdgeTest {
    private static final String BASE = "s://u@h:1/a/b?q#e";

    public static void main(String[] args) {
        withScheme();
        withTheSameScheme();
        withAnotherScheme();
        withAuthority();
        withEmptyPath();
        withSlash();
        withPathBehindTheBase();
        behindAnEmptyBase();
        fragments();
        guardedPaths();
        lengths();
        baseWithoutScheme();
        tooLong();
        longOnTheWay();
        Check.end();
    }

    private static void resolve(String base, String reference, boolean strict, String want) {
        LinkLibrary x = Check.with(base, reference, "t://v@i:2/o?r#g");
        String what = reference + " against " + base + (strict ? "" : ", not strictly");
        Check.due("length of " + what, x.resolve(2, 0, 1, strict), want.length());
        Check.due(what, Check.text(x, 2), want);
        Check.due("its base", Check.text(x, 0), base);
        Check.due("its reference", Check.text(x, 1), reference);
    }

    private static void both(String base, String reference, String want) {
        resolve(base, reference, true, want);
        resolve(base, reference, false, want);
    }

    /** "With a scheme ...: all of the reference, dots removed": nothing of the base. */
    private static void withScheme() {
        both(BASE, "t:", "t:");
        both(BASE, "t:c", "t:c");
        both(BASE, "t://", "t://");
        both(BASE, "t:?r", "t:?r");
        both(BASE, "t:#f", "t:#f");
        both(BASE, "t://v@g:2/./c/../d?r#f", "t://v@g:2/d?r#f");
        both(BASE, "t:../c/.", "t:c/");
        resolve(BASE, "s:", true, "s:");
        resolve(BASE, "s:c", true, "s:c");
        resolve(BASE, "s:/../c?r#f", true, "s:/c?r#f");
    }

    /** "if not strict, another one than the base has": the base's own one counts as none. */
    private static void withTheSameScheme() {
        resolve(BASE, "s:", false, "s://u@h:1/a/b?q");
        resolve(BASE, "s:c", false, "s://u@h:1/a/c");
        resolve(BASE, "s:../c", false, "s://u@h:1/c");
        resolve(BASE, "s:/c", false, "s://u@h:1/c");
        resolve(BASE, "s:?r#f", false, "s://u@h:1/a/b?r#f");
        resolve(BASE, "s://g/./c", false, "s://g/c");
        resolve(BASE, "s://", false, "s://");
    }

    /** "byte by byte": great and small letters are others, and so is a longer scheme. */
    private static void withAnotherScheme() {
        resolve(BASE, "S:c", false, "S:c");
        resolve("http://h/a", "https:c", false, "https:c");
        resolve("https://h/a", "http:c", false, "http:c");
        resolve("ab:c", "ac:d", false, "ac:d");
        resolve("s:c", "t:d", false, "t:d");
    }

    /** "with an authority: all else of the reference, dots removed": an empty one, too. */
    private static void withAuthority() {
        both(BASE, "//g", "s://g");
        both(BASE, "//", "s://");
        both(BASE, "//@:", "s://@:");
        both(BASE, "//v@g:2/../c/./d?r#f", "s://v@g:2/c/d?r#f");
        both(BASE, "///c", "s:///c");
        both(BASE, "//g?r", "s://g?r");
        both("s:a", "//g//..", "s://g/");
    }

    /** "with an empty path: the base's path, and the reference's query, or the base's if it has none". */
    private static void withEmptyPath() {
        both(BASE, "", "s://u@h:1/a/b?q");
        both(BASE, "?", "s://u@h:1/a/b?");
        both(BASE, "?r", "s://u@h:1/a/b?r");
        both("s:a", "", "s:a");
        both("s:a", "?", "s:a?");
        both("s:", "", "s:");
        both("s:?", "", "s:?");
        both("s://h", "", "s://h");
        both("s:a/./../b", "", "s:a/./../b");
        both("s://h/a/..", "?r", "s://h/a/..?r");
    }

    /** "Else its query, and its path, if that begins with /": the base's query goes. */
    private static void withSlash() {
        both(BASE, "/", "s://u@h:1/");
        both(BASE, "/c", "s://u@h:1/c");
        both(BASE, "/c?", "s://u@h:1/c?");
        both(BASE, "/./c/..?r", "s://u@h:1/?r");
        both("s:a/b", "/c", "s:/c");
        both("s:", "/", "s:/");
    }

    /** "else what the base's path has up to its last / (with it ...) and the reference's path; dots removed". */
    private static void withPathBehindTheBase() {
        both(BASE, "c", "s://u@h:1/a/c");
        both(BASE, "c?r", "s://u@h:1/a/c?r");
        both(BASE, "c?", "s://u@h:1/a/c?");
        both(BASE, ".", "s://u@h:1/a/");
        both(BASE, "..", "s://u@h:1/");
        both(BASE, "../..", "s://u@h:1/");
        both(BASE, "../../c", "s://u@h:1/c");
        both("s://h/a/", "c", "s://h/a/c");
        both("s://h/a//", "c", "s://h/a//c");
        both("s://h/a//", "../c", "s://h/a/c");
        both("s://h/a/./../b", "c", "s://h/c");
        both("s:a/b", "c/d", "s:a/c/d");
        both("s:/a", "c", "s:/c");
        both("s:/", "c", "s:/c");
    }

    /** "if that is empty and there is an authority: /". */
    private static void behindAnEmptyBase() {
        both("s://h", "c", "s://h/c");
        both("s://", "c", "s:///c");
        both("s://h?q", "c", "s://h/c");
        both("s://h", "..", "s://h/");
        both("s:", "c", "s:c");
        both("s:a", "c", "s:c");
        both("s:a", "..", "s:");
        both("s:?q", ".", "s:");
    }

    /** "The fragment is the reference's": the base's never stays. */
    private static void fragments() {
        both("s:a#e", "", "s:a");
        both("s:a#e", "#", "s:a#");
        both("s:a#e", "#f", "s:a#f");
        both("s:a#e", "?r", "s:a?r");
        both("s:a#e", "c#f", "s:c#f");
        both("s:a#e", "//g#f", "s://g#f");
        both("s:a#e", "t:b#f", "t:b#f");
        both("s:a#e", "t:b", "t:b");
    }

    /** "If there is no authority then, and the path begins with //, /. is put before it." */
    private static void guardedPaths() {
        both("s:a", "/.//c", "s:/.//c");
        both("s:/a/b", "..//c", "s:/.//c");
        both("s:a", ".///c", "s:/.//c");
        both("s:a", "..//c", "s:/c");
        both("s:a", "t:/..//c", "t:/.//c");
        both("s:a", "t:.//", "t:/");
        both("s:a", "t:.///", "t:/.//");
        both("s:/.//a", "", "s:/.//a");
        both("s:/.//a", "c", "s:/.//c");
        both("s:/.//a/b", "../c", "s:/.//c");
        both("s://h", "/.//c", "s://h//c");
        both("s:a", "//h/.//c", "s://h//c");
        both("s:a", "t://h/.//c", "t://h//c");
        both("s:a", "/b//c", "s:/b//c");
    }

    /** "Its length." */
    private static void lengths() {
        LinkLibrary x = Check.with("s:/", ".//");
        Check.due("with /. before it", x.resolve(2, 0, 1, true), 6);
        Check.due("written", Check.text(x, 2), "s:/.//");
        Check.due("without anything", Check.with("s:", "..").resolve(0, 0, 1, true), 2);
    }

    /** "IllegalState: the base has no scheme": whatever the reference has. */
    private static void baseWithoutScheme() {
        LinkLibrary x = Check.with("//h/a", "s://h/a", "s:");
        Check.fails("a reference without one", Check.BAD_STATE, () -> x.resolve(1, 0, 0, true));
        Check.fails("a reference with one", Check.BAD_STATE, () -> x.resolve(1, 0, 1, true));
        Check.fails("not strictly", Check.BAD_STATE, () -> x.resolve(1, 0, 1, false));
        Check.fails("an empty base", Check.BAD_STATE, () -> x.resolve(1, 7, 1, false));
        Check.due("a scheme alone is enough", x.resolve(3, 2, 0, true), 7);
    }

    private static void longest(String base, String reference, int length) {
        String what = base.length() + " and " + reference.length() + " bytes: ";
        LinkLibrary x = Check.with(base, reference, "keep");
        if (length <= 400) {
            Check.due(what, x.resolve(2, 0, 1, true), length);
            Check.due(what + "written", x.write(2), length);
            return;
        }
        Check.fails(what, Check.UNSUPPORTED, () -> x.resolve(2, 0, 1, true));
        Check.due(what + "the link stays", Check.text(x, 2), "keep");
    }

    /** "UnsupportedOperation: it would have more than 400 bytes": by each part that it may have of both. */
    private static void tooLong() {
        longest("s:", "a".repeat(398), 400);
        longest("s:", "a".repeat(399), 401);
        longest("s:", "a".repeat(400), 402);
        longest("s://h", "a".repeat(394), 400);
        longest("s://h", "a".repeat(395), 401);
        longest("s:" + "a/".repeat(100), "b".repeat(198), 400);
        longest("s:" + "a/".repeat(100), "b".repeat(199), 401);
        longest("s:" + "a".repeat(198), "?" + "q".repeat(199), 400);
        longest("s:" + "a".repeat(198), "?" + "q".repeat(200), 401);
        longest("s:" + "a".repeat(198) + "?" + "q".repeat(198), "#", 400);
        longest("s:" + "a".repeat(198) + "?" + "q".repeat(198), "#f", 401);
        longest("ss:", "//" + "h".repeat(395), 400);
        longest("ss:", "//" + "h".repeat(396), 401);
        longest("s:/", ".//" + "a".repeat(394), 400);
        longest("s:/", ".//" + "a".repeat(395), 401);
        longest("s:" + "a/".repeat(199), "b".repeat(400), 800);
        longest("s:" + "?".repeat(398), "a".repeat(398), 400);
    }

    /** "it would have": what it has before its dots are removed may be more. */
    private static void longOnTheWay() {
        longest("s:" + "a/".repeat(199), "../".repeat(133), 134);
        longest("s:" + "a/".repeat(199), "../".repeat(133) + "b", 135);
        longest("s:/" + "a".repeat(396) + "/", "../" + "b".repeat(397), 400);
        longest("s:/" + "a".repeat(396) + "/", "./.././" + "b".repeat(393), 396);
        longest("s:///" + "/".repeat(395), "../".repeat(133), 267);
        longest("s:/./" + "/".repeat(395), "../".repeat(133), 267);
    }
}
