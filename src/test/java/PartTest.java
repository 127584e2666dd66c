/** Promises 6 part, 7 host, 8 address, 9 port. */
public final class PartTest {
    public static void main(String[] args) {
        parts();
        wrongParts();
        hosts();
        addresses();
        wrongAddresses();
        ports();
        Check.end();
    }

    /** The parts from scheme to fragment, null for one that is not there. */
    private static void parts(String text, String... want) {
        LinkLibrary x = Check.with(text);
        for (int part = 0; part < 7; part++) {
            x.write(0);
            int length = x.part(0, part);
            String due = want[part];
            Check.due("length of part " + part + " of " + text, length, due == null ? -1 : due.length());
            Check.due("part " + part + " of " + text, Check.out(x, Math.max(length, 0)), due == null ? "" : due);
            Check.due("behind part " + part + " of " + text, x.word(Math.max(length, 0) / 8 + 1), 0L);
            if (length < 0) {
                Check.due("an empty out", x.word(0), 0L);
            }
        }
    }

    private static void parts() {
        parts("http://u:p@H.org:8080/a/b?x=1&y#f", "http", "u:p", "H.org", "8080", "/a/b", "x=1&y", "f");
        parts("", null, null, null, null, "", null, null);
        parts("//", null, null, "", null, "", null, null);
        parts("//@:?#", null, "", "", "", "", "", "");
        parts("s:a:b", "s", null, null, null, "a:b", null, null);
        parts("s://[::1]:1", "s", null, "[::1]", "1", "", null, null);
        parts("//a:b@[v1.x:y]/", null, "a:b", "[v1.x:y]", null, "/", null, null);
        parts("///a", null, null, "", null, "/a", null, null);
        parts("a/b:c?d?e#f?g", null, null, null, null, "a/b:c", "d?e", "f?g");
        parts("#a:b/?", null, null, null, null, "", null, "a:b/?");
        parts("?a:b//c", null, null, null, null, "", "a:b//c", null);
        parts("/a//b", null, null, null, null, "/a//b", null, null);
        parts("//h?q@r:s", null, null, "h", null, "", "q@r:s", null);
        parts("//h/a@b:c", null, null, "h", null, "/a@b:c", null, null);
    }

    private static void wrongParts() {
        LinkLibrary x = Check.with("abc");
        x.write(0);
        int[] wrong = {-1, 7, Integer.MIN_VALUE, Integer.MAX_VALUE};
        for (int bad : wrong) {
            Check.fails("part " + bad, Check.BAD_ARGUMENT, () -> x.part(0, bad));
            Check.fails("part of link " + bad + 1, Check.NO_LINK, () -> x.part(bad == 7 ? 8 : bad, 7));
        }
        Check.due("the out stays", Check.out(x, 3), "abc");
    }

    private static void host(String text, int want) {
        Check.due("host of " + text, Check.with(text).host(0), want);
    }

    private static void hosts() {
        host("", 0);
        host("s:1.2.3.4", 0);
        host("/a", 0);
        host("//", 1);
        host("//:80", 1);
        host("//1.2.3.4", 2);
        host("//u@0.0.0.0:1", 2);
        host("//255.255.255.255", 2);
        host("//256.1.1.1", 1);
        host("//01.1.1.1", 1);
        host("//1.1.1.00", 1);
        host("//1.1.1", 1);
        host("//1.1.1.1.", 1);
        host("//.1.1.1.1", 1);
        host("//1.1.1.1.1", 1);
        host("//1..1.1", 1);
        host("//1.1.1.", 1);
        host("//%31.1.1.1", 1);
        host("//1.1.1.a", 1);
        host("//1.1.1.0001", 1);
        host("//[::]", 3);
        host("//[::1.2.3.4]:5", 3);
        host("//[v1.1]", 4);
        host("//[VA.1]", 4);
        LinkLibrary x = new LinkLibrary();
        Check.fails("host 8", Check.NO_LINK, () -> x.host(8));
        Check.fails("host -1", Check.NO_LINK, () -> x.host(-1));
    }

    private static void address(String text, int... want) {
        LinkLibrary x = Check.with(text);
        for (int i = 0; i < want.length; i++) {
            Check.due("address " + i + " of " + text, x.address(0, i), want[i]);
        }
        int[] wrong = {-1, want.length, 4, Integer.MIN_VALUE, Integer.MAX_VALUE};
        for (int bad : wrong) {
            Check.fails("address " + bad + " of " + text, Check.BAD_ARGUMENT, () -> x.address(0, bad));
        }
    }

    private static void addresses() {
        address("//1.2.3.4", 0x01020304);
        address("//255.254.0.128", 0xFFFE0080);
        address("//[::]", 0, 0, 0, 0);
        address("//[::1]", 0, 0, 0, 1);
        address("//[1::]", 0x10000, 0, 0, 0);
        address("//[1:2:3:4:5:6:7:8]", 0x10002, 0x30004, 0x50006, 0x70008);
        address("//[1:2:3:4:5:6:7::]", 0x10002, 0x30004, 0x50006, 0x70000);
        address("//[::2:3:4:5:6:7:8]", 0x2, 0x30004, 0x50006, 0x70008);
        address("//[fe80::ABCD:0a:1]", 0xFE800000, 0, 0xABCD, 0x000A0001);
        address("//[1:2::7:1.2.3.255]", 0x10002, 0, 0x7, 0x010203FF);
        address("//[::ffff:192.0.2.1]:80", 0, 0, 0xFFFF, 0xC0000201);
        address("//[1:2:3:4:5:6:250.7.8.9]", 0x10002, 0x30004, 0x50006, 0xFA070809);
        address("//[0001:ffff:FFFF:00f0::]", 0x0001FFFF, 0xFFFF00F0, 0, 0);
    }

    private static void wrongAddresses() {
        String[] none = {"", "//", "//h", "//1.2.3", "//[v1.a]", "s:x"};
        for (String text : none) {
            LinkLibrary x = Check.with(text);
            Check.fails("address of " + text, Check.BAD_STATE, () -> x.address(0, 0));
            Check.fails("state before argument, " + text, Check.BAD_STATE, () -> x.address(0, 9));
            Check.fails("link before state, " + text, Check.NO_LINK, () -> x.address(8, 9));
        }
    }

    private static void port(String text, int want) {
        Check.due("port of " + text, Check.with(text).port(0), want);
    }

    private static void ports() {
        port("", -1);
        port("s:80", -1);
        port("//h", -1);
        port("//h:", -1);
        port("//h:0", 0);
        port("//h:00000", 0);
        port("//h:00080", 80);
        port("//u:7@h:65535", 65535);
        port("//[::1]:8", 8);
        port("//[::1]", -1);
        port("//u:7@h", -1);
        LinkLibrary x = new LinkLibrary();
        Check.fails("port 8", Check.NO_LINK, () -> x.port(8));
        Check.fails("port -1", Check.NO_LINK, () -> x.port(-1));
    }
}
