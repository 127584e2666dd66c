/**
 * "Where a call names several exceptions, the first one that fits is thrown", and "A call that throws changes
 * nothing but the tape, and what fault() tells": each refused call on an object that has something everywhere.
 */
public final class RefusalTest {
    private static final String[] LINKS = {"s://u@h:1/a/b?x=1&y#f", "../c", "http://h?" + "q".repeat(391), "a".repeat(400),
        "s://u@h:1/a/./b", "//[::1]:8/", "//1.2.3.4", "s:" + "p".repeat(20)};
    private static final int[] OUTSIDE = {-1, 8, Integer.MIN_VALUE, Integer.MAX_VALUE};

    private interface Call {
        void on(LinkLibrary x);
    }

    public static void main(String[] args) {
        noSuchLink();
        noSuchLinkGoesFirst();
        argumentsOfNone();
        argumentGoesBeforeState();
        stateGoesBeforeArgument();
        stateGoesBeforeLength();
        argumentGoesBeforeLength();
        tooLong();
        readersUseTheTapeUp();
        Check.end();
    }

    /** The tape stays, and what fault() tells. */
    private static void refused(String what, Class<?> want, Call call) {
        refused(what, want, call, "tape", "tape", "3@1");
    }

    private static void refused(String what, Class<?> want, Call call, String tape, String tapeThen, String faultThen) {
        LinkLibrary x = Check.with(LINKS);
        x.write(0);
        Check.feed(x, "a b");
        Check.fails("a fault before " + what, Check.BAD_ARGUMENT, () -> x.read(0));
        Check.feed(x, tape);
        Check.fails(what, want, () -> call.on(x));
        Check.due("fault behind " + what, x.fault(false) + "@" + x.fault(true), faultThen);
        Check.due("the out behind " + what, Check.wholeOut(x), LINKS[0]);
        for (int link = 0; link < LINKS.length; link++) {
            Check.due("link " + link + " behind " + what, Check.text(x, link), LINKS[link]);
        }
        x.read(0);
        Check.due("the tape behind " + what, Check.text(x, 0), tapeThen);
    }

    /** "IndexOutOfBounds: there is no such link." */
    private static void noSuchLink() {
        for (int bad : OUTSIDE) {
            String what = " " + bad;
            refused("write" + what, Check.NO_LINK, x -> x.write(bad));
            refused("part" + what, Check.NO_LINK, x -> x.part(bad, 0));
            refused("host" + what, Check.NO_LINK, x -> x.host(bad));
            refused("address" + what, Check.NO_LINK, x -> x.address(bad, 0));
            refused("port" + what, Check.NO_LINK, x -> x.port(bad));
            refused("resolve" + what, Check.NO_LINK, x -> x.resolve(bad, 0, 1, true));
            refused("resolve from" + what, Check.NO_LINK, x -> x.resolve(0, bad, 1, false));
            refused("resolve by" + what, Check.NO_LINK, x -> x.resolve(0, 0, bad, true));
            refused("normalise" + what, Check.NO_LINK, x -> x.normalise(bad, 0, 0));
            refused("normalise from" + what, Check.NO_LINK, x -> x.normalise(0, bad, 0));
            refused("relate" + what, Check.NO_LINK, x -> x.relate(bad, 0, 7));
            refused("relate from" + what, Check.NO_LINK, x -> x.relate(0, bad, 7));
            refused("relate to" + what, Check.NO_LINK, x -> x.relate(0, 0, bad));
            refused("same" + what, Check.NO_LINK, x -> x.same(bad, 0, 0));
            refused("same as" + what, Check.NO_LINK, x -> x.same(0, bad, 0));
            refused("segments" + what, Check.NO_LINK, x -> x.segments(bad));
            refused("segment" + what, Check.NO_LINK, x -> x.segment(bad, 0));
            refused("ascend" + what, Check.NO_LINK, x -> x.ascend(bad));
            refused("pairs" + what, Check.NO_LINK, x -> x.pairs(bad));
            refused("pair" + what, Check.NO_LINK, x -> x.pair(bad, 0, true));
        }
    }

    /** Where another exception fits, too. */
    private static void noSuchLinkGoesFirst() {
        refused("part 8, 7", Check.NO_LINK, x -> x.part(8, 7));
        refused("address 8, 4", Check.NO_LINK, x -> x.address(8, 4));
        refused("resolve 8 without scheme", Check.NO_LINK, x -> x.resolve(8, 1, 1, true));
        refused("resolve 8 too long", Check.NO_LINK, x -> x.resolve(8, 0, 3, true));
        refused("resolve without scheme by 8", Check.NO_LINK, x -> x.resolve(0, 1, 8, true));
        refused("normalise 8 by 32", Check.NO_LINK, x -> x.normalise(8, 0, 32));
        refused("normalise from 8 by 32", Check.NO_LINK, x -> x.normalise(0, 8, 32));
        refused("normalise 8 too long", Check.NO_LINK, x -> x.normalise(8, 2, 8));
        refused("relate 8 without scheme", Check.NO_LINK, x -> x.relate(8, 1, 1));
        refused("relate without scheme to 8", Check.NO_LINK, x -> x.relate(0, 1, 8));
        refused("relate 8 to none", Check.NO_LINK, x -> x.relate(8, 0, 4));
        refused("same 8 by 32", Check.NO_LINK, x -> x.same(8, 0, 32));
        refused("same as 8 by 32", Check.NO_LINK, x -> x.same(0, 8, 32));
        refused("segment 8, 9", Check.NO_LINK, x -> x.segment(8, 9));
        refused("pair 8, 9", Check.NO_LINK, x -> x.pair(8, 9, false));
    }

    private static void argumentsOfNone() {
        refused("feed 0", Check.BAD_ARGUMENT, x -> x.feed(0x61, 0));
        refused("feed 9", Check.BAD_ARGUMENT, x -> x.feed(0x61, 9));
        refused("part -1", Check.BAD_ARGUMENT, x -> x.part(0, -1));
        refused("part 7", Check.BAD_ARGUMENT, x -> x.part(0, 7));
        refused("address of six 4", Check.BAD_ARGUMENT, x -> x.address(5, 4));
        refused("address of four 1", Check.BAD_ARGUMENT, x -> x.address(6, 1));
        refused("normalise by -1", Check.BAD_ARGUMENT, x -> x.normalise(1, 0, -1));
        refused("normalise by 32", Check.BAD_ARGUMENT, x -> x.normalise(1, 0, 32));
        refused("same by 32", Check.BAD_ARGUMENT, x -> x.same(1, 0, 32));
        refused("segment 2", Check.BAD_ARGUMENT, x -> x.segment(0, 2));
        refused("segment -1", Check.BAD_ARGUMENT, x -> x.segment(0, -1));
        refused("name 2", Check.BAD_ARGUMENT, x -> x.pair(0, 2, false));
        refused("value -1", Check.BAD_ARGUMENT, x -> x.pair(0, -1, true));
        refused("value of no query", Check.BAD_ARGUMENT, x -> x.pair(1, 0, true));
    }

    /** feed names IllegalArgument first. */
    private static void argumentGoesBeforeState() {
        String full = "a".repeat(400);
        refused("feed 9 to a full tape", Check.BAD_ARGUMENT, x -> x.feed(0x61, 9), full, full, "3@1");
        refused("feed 0 to a full tape", Check.BAD_ARGUMENT, x -> x.feed(0x61, 0), full, full, "3@1");
        refused("feed 1 to a full tape", Check.BAD_STATE, x -> x.feed(0x61, 1), full, full, "3@1");
        refused("feed 8 to 393", Check.BAD_STATE, x -> x.feed(0x61, 8), full.substring(7), full.substring(7), "3@1");
    }

    /** address names IllegalState first. */
    private static void stateGoesBeforeArgument() {
        refused("address of a name", Check.BAD_STATE, x -> x.address(0, 0));
        refused("address of a name 4", Check.BAD_STATE, x -> x.address(0, 4));
        refused("address of no host -1", Check.BAD_STATE, x -> x.address(1, -1));
    }

    /** resolve and relate name IllegalState first. */
    private static void stateGoesBeforeLength() {
        refused("resolve without scheme", Check.BAD_STATE, x -> x.resolve(0, 1, 0, true));
        refused("resolve without scheme, too long", Check.BAD_STATE, x -> x.resolve(0, 5, 3, true));
        refused("relate from no scheme", Check.BAD_STATE, x -> x.relate(2, 1, 0));
        refused("relate to no scheme", Check.BAD_STATE, x -> x.relate(2, 0, 1));
    }

    /** normalise names IllegalArgument first. */
    private static void argumentGoesBeforeLength() {
        refused("normalise by 40, too long", Check.BAD_ARGUMENT, x -> x.normalise(0, 2, 40));
        refused("normalise by -24, too long", Check.BAD_ARGUMENT, x -> x.normalise(0, 2, -24));
    }

    private static void tooLong() {
        refused("resolve", Check.UNSUPPORTED, x -> x.resolve(1, 0, 3, true));
        refused("resolve onto the base", Check.UNSUPPORTED, x -> x.resolve(0, 0, 3, true));
        refused("resolve onto the reference", Check.UNSUPPORTED, x -> x.resolve(3, 0, 3, true));
        refused("normalise", Check.UNSUPPORTED, x -> x.normalise(0, 2, 8));
        refused("normalise itself", Check.UNSUPPORTED, x -> x.normalise(2, 2, 31));
        refused("relate to none", Check.UNSUPPORTED, x -> x.relate(1, 0, 4));
        refused("relate onto the base", Check.UNSUPPORTED, x -> x.relate(0, 0, 4));
        refused("relate onto the target", Check.UNSUPPORTED, x -> x.relate(4, 0, 4));
    }

    /** "nothing but the tape, and what fault() tells". */
    private static void readersUseTheTapeUp() {
        refused("read of a fault", Check.BAD_ARGUMENT, x -> x.read(0), "a%4", "", "2@1");
        refused("read 8", Check.NO_LINK, x -> x.read(8), "tape", "", "0@0");
        refused("read -1 of a fault", Check.NO_LINK, x -> x.read(-1), "a%4", "", "0@0");
        refused("descend 8", Check.NO_LINK, x -> x.descend(8), "tape", "", "3@1");
        refused("descend -1, too long", Check.NO_LINK, x -> x.descend(-1), "a".repeat(400), "", "3@1");
        refused("descend too long", Check.UNSUPPORTED, x -> x.descend(3), "", "", "3@1");
        refused("descend too long by codes", Check.UNSUPPORTED, x -> x.descend(0), " ".repeat(134), "", "3@1");
    }
}
