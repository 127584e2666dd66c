/** Each clause of "DOTS ARE REMOVED of a path so", above a test of its own. */
public final class DotsTest {
    public static void main(String[] args) {
        segmentBySegment();
        onePointGoes();
        twoPointsTakeTheOneBefore();
        twoPointsWithoutOneBefore();
        lastOneWent();
        nothingLeft();
        slashAtTheBeginning();
        Check.end();
    }

    /** Twice: as a reference with a scheme is resolved, and as it is normalised. */
    private static void dots(String path, String want) {
        String before = path.startsWith("/") ? "t://h" : "t:";
        LinkLibrary x = Check.with("s:x", before + path);
        Check.due("length of " + path, x.resolve(2, 0, 1, true), before.length() + want.length());
        Check.due("dots of " + path, Check.text(x, 2), before + want);
        x.normalise(3, 1, 4);
        Check.due("normalised " + path, Check.text(x, 3), before + want);
    }

    /** "segment by segment (what is between /, from the first one)": empty ones too, and points elsewhere are no dots. */
    private static void segmentBySegment() {
        dots("", "");
        dots("a", "a");
        dots("a/b", "a/b");
        dots("/a//b/", "/a//b/");
        dots("//", "//");
        dots("...", "...");
        dots("/.../a./.a/..a/a..", "/.../a./.a/..a/a..");
        dots("/%2e/%2E%2e/.%2e", "/%2e/%2E%2e/.%2e");
        dots("/.;/..;/.:", "/.;/..;/.:");
        dots("/a//../b", "/a/b");
        dots("a//../b", "a/b");
    }

    /** "those that are one point go". */
    private static void onePointGoes() {
        dots("./a", "a");
        dots("/./a", "/a");
        dots("a/./b", "a/b");
        dots("/a/./././b", "/a/b");
        dots("././a", "a");
    }

    /** "those that are two take the one before them, if there is one, with them". */
    private static void twoPointsTakeTheOneBefore() {
        dots("a/../b", "b");
        dots("/a/../b", "/b");
        dots("a/b/../c", "a/c");
        dots("a/b/../../c", "c");
        dots("a/./../b", "b");
        dots("/a/b/./../../c", "/c");
        dots("//../a", "/a");
        dots(".../../a", "a");
    }

    /** "if there is one". */
    private static void twoPointsWithoutOneBefore() {
        dots("../a", "a");
        dots("/../a", "/a");
        dots("../../../a", "a");
        dots("/a/../../b", "/b");
        dots("a/../../b", "b");
        dots("./../a", "a");
    }

    /** "where the last one went, the path ends in /". */
    private static void lastOneWent() {
        dots("a/.", "a/");
        dots("/a/.", "/a/");
        dots("a/b/..", "a/");
        dots("/a/b/..", "/a/");
        dots("/a/b/../.", "/a/");
        dots("/a//..", "/a/");
        dots("/a//.", "/a//");
        dots("a/./b", "a/b");
        dots("a/../b/", "b/");
    }

    /** "if anything is left of it". */
    private static void nothingLeft() {
        dots(".", "");
        dots("..", "");
        dots("./", "");
        dots("../", "");
        dots("a/..", "");
        dots("a/../", "");
        dots("a/../.", "");
        dots("a/b/../..", "");
        dots("a/..//.", "/");
    }

    /** "a path that began with / does still". */
    private static void slashAtTheBeginning() {
        dots("/", "/");
        dots("/.", "/");
        dots("/..", "/");
        dots("/./", "/");
        dots("/../", "/");
        dots("/a/..", "/");
        dots("/a/../..", "/");
        dots("//..", "/");
        dots("//.", "//");
        dots("/..//a", "//a");
    }
}
