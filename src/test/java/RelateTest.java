/** Promise 12 relate. */
public final class RelateTest {
    public static void main(String[] args) {
        relations();
        noRelations();
        linksOfThemselves();
        lengths();
        wrongOnes();
        Check.end();
    }

    private static void relate(String base, String target, String want) {
        LinkLibrary x = Check.with(base, target);
        String what = target + " from " + base;
        Check.due("length of " + what, x.relate(2, 0, 1), want.length());
        Check.due(what, Check.text(x, 2), want);
        Check.due("base of " + what, Check.text(x, 0), base);
        Check.due("target of " + what, Check.text(x, 1), target);
        x.resolve(3, 0, 2, true);
        Check.due("back to " + what, Check.text(x, 3), target);
    }

    private static void relations() {
        relate("http://a/b/c/d;p?q", "http://a/b/c/g", "g");
        relate("http://a/b/c/d", "http://a/b/c/d#x", "#x");
        relate("http://a/b/c/d?q", "http://a/b/c/d?q", "");
        relate("http://a/b/c/d?q#f", "http://a/b/c/d?q", "");
        relate("http://a/b/c/d?q", "http://a/b/c/d?r#", "?r#");
        relate("http://a/b/c/d?q", "http://a/b/c/d", "d");
        relate("http://a/b/c/?q", "http://a/b/c/", "./");
        relate("http://a/?q", "http://a/", "/");
        relate("http://a/b/", "http://a/b/c:d", "./c:d");
        relate("http://a/b/", "http://a/b/c/d:e", "c/d:e");
        relate("http://a/b", "http://a/b/c:d", "b/c:d");
        relate("http://a/bb/c", "http://a/bb//x", ".//x");
        relate("http://a/b/c/", "http://a/b/", "../");
        relate("http://a/b/c/d/", "http://a/b/e", "/b/e");
        relate("http://a/bbbb/c/d/", "http://a/bbbb/e", "../../e");
        relate("http://a/bbbb/c/d/e", "http://a/bbbb/c:e", "../../c:e");
        relate("http://a/b/c", "http://x/b", "//x/b");
        relate("http://a/b/c", "http://u@a/b/c", "//u@a/b/c");
        relate("http://a/b/c", "http://a:/b/c", "//a:/b/c");
        relate("http://a/b", "ftp://a/b", "ftp://a/b");
        relate("http://a/b", "HTTP://a/b", "HTTP://a/b");
        relate("http://a/b/c/d/e/f", "http://a/x", "/x");
        relate("http://a", "http://a/b", "/b");
        relate("http://a", "http://a/b:c", "/b:c");
        relate("http://a/b", "http://a", "//a");
        relate("http://a/b", "http://a?q", "//a?q");
        relate("http://a?p", "http://a?q", "?q");
        relate("http://a/b", "http://a//c", ".//c");
        relate("http://a/b/", "http://a//c", "..//c");
        relate("urn:a:b", "urn:c", "c");
        relate("urn:a:b", "urn:c:d", "./c:d");
        relate("urn:a/b", "urn:a/", "./");
        relate("urn:a/b", "urn:", "../");
        relate("urn:a/b", "urn:c", "../c");
        relate("urn:a", "urn:/b", "/b");
        relate("urn:a", "urn:", "./");
        relate("urn:/a", "urn:a", "urn:a");
        relate("urn:a", "urn://h/a", "//h/a");
        relate("urn://h/a", "urn:/a", "urn:/a");
        relate("urn://h/a", "urn:", "urn:");
        relate("file:/a/b", "file:/.//x", "/.//x");
        relate("http://a/b//c", "http://a/b//d", "d");
        relate("http://a/b/../c", "http://a/b/../c?q#f", "?q#f");
        relate("http://a/b/./c", "http://a/b/./c", "");
        relate("http://a/b/../c", "http://a/d", "/d");
    }

    private static void noRelations() {
        none("http://a/b/..", "http://a/b/../c");
        none("http://a/b", "http://a/./b");
        none("http://a/b", "ftp://a/b/..");
        none("urn:a", "urn:./b");
        none("http://a/b/../c?q", "http://a/b/../c");
    }

    private static void none(String base, String target) {
        LinkLibrary x = Check.with(base, target, "keep");
        x.write(2);
        Check.fails(target + " from " + base, Check.UNSUPPORTED, () -> x.relate(2, 0, 1));
        Check.due("the out stays", Check.out(x, 4), "keep");
        Check.due("the link stays", Check.text(x, 2), "keep");
    }

    private static void linksOfThemselves() {
        LinkLibrary x = Check.with("http://a/b/c", "http://a/b/d");
        x.relate(1, 0, 1);
        Check.due("onto the target", Check.text(x, 1), "d");
        Check.read(x, 1, "http://a/b/d");
        x.relate(0, 0, 1);
        Check.due("onto the base", Check.text(x, 0), "d");
        x.relate(1, 1, 1);
        Check.due("onto all", Check.text(x, 1), "");
    }

    private static void lengths() {
        LinkLibrary x = Check.with("s:/" + "a/".repeat(198), "s:/" + "b".repeat(397));
        Check.due("many ../ are too long", x.relate(2, 0, 1), 398);
        Check.due("so the path is shorter", Check.text(x, 2), "/" + "b".repeat(397));
        LinkLibrary y = Check.with("s:x", "s://h/" + "b".repeat(394));
        Check.due("all but the scheme", y.relate(2, 0, 1), 398);
        LinkLibrary z = Check.with("t:x", "s://h/" + "b".repeat(394));
        Check.due("all of it", z.relate(2, 0, 1), 400);
    }

    private static void wrongOnes() {
        LinkLibrary x = Check.with("s:a", "b", "keep");
        Check.fails("a target without scheme", Check.BAD_STATE, () -> x.relate(2, 0, 1));
        Check.fails("a base without scheme", Check.BAD_STATE, () -> x.relate(2, 1, 0));
        int[] wrong = {-1, 8, Integer.MIN_VALUE, Integer.MAX_VALUE};
        for (int bad : wrong) {
            Check.fails("link " + bad, Check.NO_LINK, () -> x.relate(bad, 1, 1));
            Check.fails("base " + bad, Check.NO_LINK, () -> x.relate(2, bad, 1));
            Check.fails("target " + bad, Check.NO_LINK, () -> x.relate(2, 1, bad));
        }
        Check.due("the link stays", Check.text(x, 2), "keep");
    }
}
