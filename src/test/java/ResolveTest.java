/** Promise 10 resolve, and how dots are removed. */
public final class ResolveTest {
    public static void main(String[] args) {
        examplesOfTheRfc();
        schemes();
        authorities();
        dots();
        linksOfThemselves();
        tooLong();
        wrongOnes();
        Check.end();
    }

    private static void resolve(String base, String reference, boolean strict, String want) {
        LinkLibrary x = Check.with(base, reference);
        String what = reference + " against " + base;
        Check.due("length of " + what, x.resolve(2, 0, 1, strict), want.length());
        Check.due(what, Check.text(x, 2), want);
        Check.due("base of " + what, Check.text(x, 0), base);
        Check.due("reference of " + what, Check.text(x, 1), reference);
    }

    private static void resolve(String base, String reference, String want) {
        resolve(base, reference, true, want);
    }

    private static void examplesOfTheRfc() {
        String[] rows = {"g:h", "g:h", "g", "http://a/b/c/g", "./g", "http://a/b/c/g", "g/", "http://a/b/c/g/",
            "/g", "http://a/g", "//g", "http://g", "?y", "http://a/b/c/d;p?y", "g?y", "http://a/b/c/g?y",
            "#s", "http://a/b/c/d;p?q#s", "g#s", "http://a/b/c/g#s", "g?y#s", "http://a/b/c/g?y#s",
            ";x", "http://a/b/c/;x", "g;x", "http://a/b/c/g;x", "g;x?y#s", "http://a/b/c/g;x?y#s",
            "", "http://a/b/c/d;p?q", ".", "http://a/b/c/", "./", "http://a/b/c/", "..", "http://a/b/",
            "../", "http://a/b/", "../g", "http://a/b/g", "../..", "http://a/", "../../", "http://a/",
            "../../g", "http://a/g", "../../../g", "http://a/g", "../../../../g", "http://a/g",
            "/./g", "http://a/g", "/../g", "http://a/g", "g.", "http://a/b/c/g.", ".g", "http://a/b/c/.g",
            "g..", "http://a/b/c/g..", "..g", "http://a/b/c/..g", "./../g", "http://a/b/g", "./g/.", "http://a/b/c/g/",
            "g/./h", "http://a/b/c/g/h", "g/../h", "http://a/b/c/h", "g;x=1/./y", "http://a/b/c/g;x=1/y",
            "g;x=1/../y", "http://a/b/c/y", "g?y/./x", "http://a/b/c/g?y/./x", "g?y/../x", "http://a/b/c/g?y/../x",
            "g#s/./x", "http://a/b/c/g#s/./x", "g#s/../x", "http://a/b/c/g#s/../x"};
        for (int i = 0; i < rows.length; i += 2) {
            resolve("http://a/b/c/d;p?q", rows[i], true, rows[i + 1]);
            resolve("http://a/b/c/d;p?q", rows[i], false, rows[i + 1]);
        }
    }

    private static void schemes() {
        resolve("http://a/b/c/d;p?q", "http:g", true, "http:g");
        resolve("http://a/b/c/d;p?q", "http:g", false, "http://a/b/c/g");
        resolve("http://a/b/c/d;p?q", "http:", false, "http://a/b/c/d;p?q");
        resolve("http://a/b/c/d;p?q", "http:?y#z", false, "http://a/b/c/d;p?y#z");
        resolve("http://a/b", "http://x/./y", false, "http://x/y");
        resolve("http://a/b/c", "HTTP:g", false, "HTTP:g");
        resolve("http://a/b/c", "https:g", false, "https:g");
        resolve("http://a/b/c", "x://u@h:1/a/../b?c#d", "x://u@h:1/b?c#d");
        resolve("s:x", "urn:a/./b/..", "urn:a/");
        resolve("s:a?b#c", "", "s:a?b");
        resolve("s:a?b#c", "?", "s:a?");
        resolve("s:a?b#c", "#", "s:a?b#");
        resolve("s:", "x", "s:x");
        resolve("s:a/b", "c:d", "c:d");
        resolve("s:a/b", "./c:d", "s:a/c:d");
    }

    private static void authorities() {
        resolve("s://u@h:1/p?q#f", "//v@g:2", "s://v@g:2");
        resolve("s://u@h:1/p?q#f", "//g/../x?y", "s://g/x?y");
        resolve("s://u@h:1/p?q#f", "x", "s://u@h:1/x");
        resolve("s://u@h:1/p?q#f", "/x", "s://u@h:1/x");
        resolve("s://u@h:1/p?q#f", "", "s://u@h:1/p?q");
        resolve("s://h", "x", "s://h/x");
        resolve("s://h", "../x", "s://h/x");
        resolve("s://h?q", "x", "s://h/x");
        resolve("s://h?q", "", "s://h?q");
        resolve("s://", "x", "s:///x");
        resolve("s:p", "//", "s://");
        resolve("s://h/", ".//x", "s://h//x");
        resolve("s:/", ".//x", "s:/.//x");
        resolve("s:/a", "..//b", "s:/.//b");
        resolve("s:/a", "/.//b", "s:/.//b");
        resolve("s:/a/b", "t:/.//c", "t:/.//c");
        resolve("s:a", "t:..///c", "t:/.//c");
        resolve("s:/.//a", "", "s:/.//a");
        resolve("s:/.//a", "b", "s:/.//b");
    }

    private static void dots() {
        resolve("s://h/a/./../b", "", "s://h/a/./../b");
        resolve("s://h/a/./../b/c", "d", "s://h/b/d");
        resolve("s:x", "t:.", "t:");
        resolve("s:x", "t:..", "t:");
        resolve("s:x", "t:a/..", "t:");
        resolve("s:x", "t:a/.", "t:a/");
        resolve("s:x", "t:a/b/..", "t:a/");
        resolve("s:x", "t:../a", "t:a");
        resolve("s:x", "t:a/../..//b", "t:/b");
        resolve("s:x", "t:a/..//.", "t:/");
        resolve("s:x", "t:a/../b", "t:b");
        resolve("s:x", "t:/.", "t:/");
        resolve("s:x", "t:/..", "t:/");
        resolve("s:x", "t:/a/..", "t:/");
        resolve("s:x", "t:/a/.", "t:/a/");
        resolve("s:x", "t:/a/b/../..", "t:/");
        resolve("s:x", "t:/a//..", "t:/a/");
        resolve("s:x", "t:/a//../b", "t:/a/b");
        resolve("s:x", "t:/...", "t:/...");
        resolve("s:x", "t:/a/.../..b/.c", "t:/a/.../..b/.c");
        resolve("s:x", "t:/%2e/%2E%2E", "t:/%2e/%2E%2E");
        resolve("s:x", "t://h//..", "t://h/");
        resolve("s:x", "t://h//.", "t://h//");
        resolve("s:x", "t://h///../..", "t://h/");
        resolve("s:x", "t://h", "t://h");
        resolve("s:a", "..", "s:");
        resolve("s:a/b/c", "..", "s:a/");
        resolve("s:a/b/c", "../..", "s:");
    }

    private static void linksOfThemselves() {
        LinkLibrary x = Check.with("http://a/b/c?q", "../d#f");
        x.resolve(0, 0, 1, true);
        Check.due("onto the base", Check.text(x, 0), "http://a/d#f");
        x.resolve(1, 0, 1, true);
        Check.due("onto the reference", Check.text(x, 1), "http://a/d#f");
        x.resolve(1, 1, 1, true);
        Check.due("all of one", Check.text(x, 1), "http://a/d#f");
        Check.read(x, 2, "s:a/b?q");
        x.resolve(2, 2, 3, true);
        Check.due("an empty reference", Check.text(x, 2), "s:a/b?q");
    }

    private static void tooLong() {
        String base = "s://h/" + "a".repeat(190) + "/";
        LinkLibrary x = Check.with(base, "b".repeat(203), "b".repeat(204), "keep");
        Check.due("400 bytes", x.resolve(4, 0, 1, true), 400);
        Check.fails("401 bytes", Check.UNSUPPORTED, () -> x.resolve(3, 0, 2, true));
        Check.due("the link stays", Check.text(x, 3), "keep");
        LinkLibrary y = Check.with("s://h/" + "a".repeat(393) + "/", "../" + "b".repeat(394));
        Check.due("short enough without dots", y.resolve(0, 0, 1, true), 400);
        Check.due("its text", Check.text(y, 0), "s://h/" + "b".repeat(394));
    }

    private static void wrongOnes() {
        LinkLibrary x = Check.with("s:a", "b", "keep", "t:c");
        x.write(2);
        int[] wrong = {-1, 8, Integer.MIN_VALUE, Integer.MAX_VALUE};
        for (int bad : wrong) {
            Check.fails("link " + bad, Check.NO_LINK, () -> x.resolve(bad, 1, 1, true));
            Check.fails("base " + bad, Check.NO_LINK, () -> x.resolve(2, bad, 1, true));
            Check.fails("reference " + bad, Check.NO_LINK, () -> x.resolve(2, 1, bad, false));
        }
        Check.fails("a base without scheme", Check.BAD_STATE, () -> x.resolve(2, 1, 1, true));
        Check.fails("the base alone counts", Check.BAD_STATE, () -> x.resolve(2, 1, 3, true));
        Check.due("the out stays", Check.out(x, 4), "keep");
        Check.due("the link stays", Check.text(x, 2), "keep");
    }
}
