/** Promises 18 pairs and 19 pair. */
public final class PairTest {
    public static void main(String[] args) {
        pairs("");
        pairs("a/b&c=d#e&f");
        pairs("?", "", null);
        pairs("?a", "a", null);
        pairs("?=", "", "");
        pairs("?a=", "a", "");
        pairs("?=a", "", "a");
        pairs("?&", "", null, "", null);
        pairs("?a=1&b=2&c", "a", "1", "b", "2", "c", null);
        pairs("?a=1&&b=2&", "a", "1", "", null, "b", "2", "", null);
        pairs("?a=b=c&d", "a", "b=c", "d", null);
        pairs("s://h/?x=1;y=2#z&z", "x", "1;y=2");
        pairs("?%26=%3D%26&%3d", "&", "=&", "=", null);
        pairs("?a+b=c%20d+%ff", "a+b", "c d+\u00ff");
        pairs("??a=/?:@", "?a", "/?:@");
        wrongLinks();
        Check.end();
    }

    /** The names and the values one behind the other, null for a value without =. */
    private static void pairs(String text, String... want) {
        LinkLibrary x = Check.with(text);
        Check.due("pairs of " + text, x.pairs(0), want.length / 2);
        for (int k = 0; k < want.length; k++) {
            String what = (k % 2 == 1 ? "value " : "name ") + k / 2 + " of " + text;
            x.write(0);
            int length = x.pair(0, k / 2, k % 2 == 1);
            Check.due("length of " + what, length, want[k] == null ? -1 : want[k].length());
            Check.due(what, Check.out(x, Math.max(length, 0)), want[k] == null ? "" : want[k]);
            Check.due("behind " + what, x.word(Math.max(length, 0) / 8) >>> 8 * (Math.max(length, 0) % 8), 0L);
        }
        x.write(0);
        int[] wrong = {-1, want.length / 2, want.length / 2 + 1, Integer.MIN_VALUE, Integer.MAX_VALUE};
        for (int i : wrong) {
            Check.fails("name " + i + " of " + text, Check.BAD_ARGUMENT, () -> x.pair(0, i, false));
            Check.fails("value " + i + " of " + text, Check.BAD_ARGUMENT, () -> x.pair(0, i, true));
        }
        Check.due("the out stays", Check.out(x, text.length()), text);
    }

    private static void wrongLinks() {
        LinkLibrary x = new LinkLibrary();
        int[] wrong = {-1, 8, Integer.MIN_VALUE, Integer.MAX_VALUE};
        for (int bad : wrong) {
            Check.fails("pairs of " + bad, Check.NO_LINK, () -> x.pairs(bad));
            Check.fails("pair of " + bad, Check.NO_LINK, () -> x.pair(bad, -1, true));
        }
    }
}
