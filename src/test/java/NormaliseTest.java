/** Promises 11 normalise and 13 same. */
public final class NormaliseTest {
    public static void main(String[] args) {
        letters();
        codes();
        dots();
        ports();
        six();
        together();
        lengths();
        wrongOnes();
        sames();
        Check.end();
    }

    private static void normal(String text, int how, String want) {
        LinkLibrary x = Check.with(text);
        String what = text + " by " + how;
        Check.due("length of " + what, x.normalise(1, 0, how), want.length());
        Check.due(what, Check.text(x, 1), want);
        Check.due("the source of " + what, Check.text(x, 0), text);
        Check.due("same as its form, " + what, x.same(0, 1, how), true);
        Check.due("same as it stands, " + what, x.same(0, 1, 0), text.equals(want));
        x.normalise(0, 0, how);
        Check.due("of itself, " + what, Check.text(x, 0), want);
    }

    private static void letters() {
        normal("HTTP://Us%6aer@EX%4aMPLE.Org:80/A%3dB?C%3dD#E%3dF", 1,
            "http://Us%6Aer@ex%4Ample.org:80/A%3DB?C%3DD#E%3DF");
        normal("S://[FE80::ABcd]", 1, "s://[fe80::abcd]");
        normal("ZAza://Z@ZAza/Z", 1, "zaza://Z@zaza/Z");
        normal("S://[V1F.AbC]", 1, "s://[v1f.abc]");
        normal("A/B", 1, "A/B");
        normal("A+B-C.1:X", 1, "a+b-c.1:X");
        normal("%aa%bb%CC%dD", 1, "%AA%BB%CC%DD");
        normal("%25aa", 1, "%25aa");
        normal("HTTP://H/%7e", 0, "HTTP://H/%7e");
    }

    private static void codes() {
        normal("//%61%2d%2E%5f%7e%30@%41%5A/%7A%39?%41#%62", 2, "//a-._~0@AZ/z9?A#b");
        normal("/%2f%3a%40%21%20%00%ff", 2, "/%2f%3a%40%21%20%00%ff");
        normal("/%2541%25%34%31", 2, "/%2541%2541");
        normal("/%2e%2e/a", 2, "/../a");
        normal("//%31.2.3.4", 2, "//1.2.3.4");
        normal("/%6a%6A%3a", 3, "/jj%3A");
        LinkLibrary y = Check.with("//H%41");
        y.normalise(1, 0, 3);
        Check.due("small letters come before codes", Check.text(y, 1), "//hA");
        Check.due("so its form has another one", y.same(0, 1, 3), false);
        LinkLibrary x = Check.with("//%31.2.3.4");
        x.normalise(0, 0, 2);
        Check.due("a host by its bytes then", x.host(0), 2);
        Check.due("its bits", x.address(0, 0), 0x01020304);
    }

    private static void dots() {
        normal("a/../b", 4, "a/../b");
        normal("./a", 4, "./a");
        normal("..", 4, "..");
        normal("/a/../b", 4, "/b");
        normal("/a/..//b", 4, "/.//b");
        normal("/.//b", 4, "/.//b");
        normal("//h/..//b", 4, "//h//b");
        normal("//h", 4, "//h");
        normal("urn:a/../../b", 4, "urn:b");
        normal("urn:a/../..//b", 4, "urn:/b");
        normal("urn:.///b", 4, "urn:/.//b");
        normal("urn:./a:b", 4, "urn:a:b");
        normal("s:/a/%2e%2E/b", 4, "s:/a/%2e%2E/b");
        normal("s:/a/%2e%2E/b", 6, "s:/b");
        normal("?/../", 4, "?/../");
        normal("/a?/../b#/../c", 4, "/a?/../b#/../c");
    }

    private static void ports() {
        normal("//h:", 8, "//h");
        normal("x://h:/", 8, "x://h/");
        normal("x://h", 8, "x://h");
        normal("x://h:80", 8, "x://h:80");
        normal("//h:80", 8, "//h:80");
        normal("http://h:", 8, "http://h/");
        normal("http://h:80/", 8, "http://h/");
        normal("http://h:00080", 8, "http://h/");
        normal("http://h:081/", 8, "http://h:081/");
        normal("http://h:443/", 8, "http://h:443/");
        normal("http://h:0/", 8, "http://h:0/");
        normal("ws://h:80?x", 8, "ws://h/?x");
        normal("https://h:0443#f", 8, "https://h/#f");
        normal("wss://u@h:443", 8, "wss://u@h/");
        normal("wss://h:80/", 8, "wss://h:80/");
        normal("ftp://h:21", 8, "ftp://h/");
        normal("ftp://h:80/x", 8, "ftp://h:80/x");
        normal("FTP://h:21", 8, "FTP://h:21");
        normal("FTP://h:21", 9, "ftp://h/");
        normal("Http://h", 8, "Http://h");
        normal("http:", 8, "http:");
        normal("http:?q", 8, "http:?q");
        normal("http://", 8, "http:///");
        normal("httpx://h:80", 8, "httpx://h:80");
        normal("htt://h:80", 8, "htt://h:80");
    }

    private static void six() {
        normal("//[1:0:0:2:0:0:0:3]", 16, "//[1:0:0:2::3]");
        normal("//[0:0:0:0:0:0:0:0]", 16, "//[::]");
        normal("//[1:0:2:0:3:0:4:0]", 16, "//[1:0:2:0:3:0:4:0]");
        normal("//[1:0:0:2:3:0:0:4]", 16, "//[1::2:3:0:0:4]");
        normal("//[0:0:1:2:3:4:0:0]", 16, "//[::1:2:3:4:0:0]");
        normal("//[1:2:3:4:5:6::]", 16, "//[1:2:3:4:5:6::]");
        normal("//[1:2:3:4:5:6:7::]", 16, "//[1:2:3:4:5:6:7:0]");
        normal("//[::2:3:4:5:6:7:8]", 16, "//[0:2:3:4:5:6:7:8]");
        normal("//[1::3:4:5:6:7:8]", 16, "//[1:0:3:4:5:6:7:8]");
        normal("//[::FFFF:1.2.3.4]", 16, "//[::ffff:102:304]");
        normal("//[::0.0.0.0]", 16, "//[::]");
        normal("//[0001:00a0:0b00:ABCD:0000::]", 16, "//[1:a0:b00:abcd::]");
        normal("//u@[0:1::]:8/X", 16, "//u@[0:1::]:8/X");
        normal("//[::1:0:0]", 16, "//[::1:0:0]");
        normal("//[v1.AB]", 16, "//[v1.AB]");
        normal("//1.2.3.4", 16, "//1.2.3.4");
    }

    private static void together() {
        normal("HTTP://Ex%61mple.ORG:80/%7ea/../b?%3d", 31, "http://example.org/b?%3D");
        normal("HTTP://[0:0::FFFF]:080/%2E%2e/x", 31, "http://[::ffff]/x");
        normal("WS://H:80", 25, "ws://h/");
        normal("http://h/./", 0, "http://h/./");
    }

    private static void lengths() {
        String tail = "?" + "q".repeat(391);
        LinkLibrary x = Check.with("http://h" + tail, "keep");
        Check.fails("401 bytes", Check.UNSUPPORTED, () -> x.normalise(1, 0, 8));
        Check.fails("401 bytes of itself", Check.UNSUPPORTED, () -> x.normalise(0, 0, 31));
        Check.due("the link stays", Check.text(x, 1), "keep");
        Check.due("400 bytes", x.normalise(1, 0, 7), 400);
        Check.due("same beyond 400", x.same(0, 1, 8), true);
        Check.read(x, 2, "http://h/" + "?" + "q".repeat(390));
        Check.due("another one beyond 400", x.same(0, 2, 8), false);
        LinkLibrary y = Check.with("http://[::0]?" + "q".repeat(387));
        Check.due("one more, one less", y.normalise(0, 0, 24), 400);
        LinkLibrary z = Check.with("//[1:0:0:2::]?" + "q".repeat(386));
        Check.due("400 stay 400", z.normalise(0, 0, 16), 400);
    }

    private static void wrongOnes() {
        LinkLibrary x = Check.with("/a/../b", "keep");
        x.write(1);
        int[] bits = {-1, 32, Integer.MIN_VALUE, Integer.MAX_VALUE};
        for (int how : bits) {
            Check.fails("normalise by " + how, Check.BAD_ARGUMENT, () -> x.normalise(1, 0, how));
            Check.fails("same by " + how, Check.BAD_ARGUMENT, () -> x.same(1, 0, how));
        }
        int[] wrong = {-1, 8, Integer.MIN_VALUE, Integer.MAX_VALUE};
        for (int bad : wrong) {
            Check.fails("normalise link " + bad, Check.NO_LINK, () -> x.normalise(bad, 0, 32));
            Check.fails("normalise from " + bad, Check.NO_LINK, () -> x.normalise(0, bad, 32));
            Check.fails("same link " + bad, Check.NO_LINK, () -> x.same(bad, 0, 32));
            Check.fails("same other " + bad, Check.NO_LINK, () -> x.same(0, bad, 32));
        }
        Check.due("the out stays", Check.out(x, 4), "keep");
        Check.due("the link stays", Check.text(x, 1), "keep");
    }

    private static void same(String one, String two, int how, boolean want) {
        LinkLibrary x = Check.with(one, two);
        Check.due(one + " same as " + two + " by " + how, x.same(0, 1, how), want);
        Check.due(two + " same as " + one + " by " + how, x.same(1, 0, how), want);
        Check.due(one + " stays", Check.text(x, 0), one);
        Check.due(two + " stays", Check.text(x, 1), two);
        Check.due("same as itself", x.same(1, 1, how), true);
    }

    private static void sames() {
        same("", "", 31, true);
        same("a", "b", 31, false);
        same("a", "a?", 31, false);
        same("a?", "a#", 31, false);
        same("a", "a#", 31, false);
        same("//", "", 31, false);
        same("//h", "//h:", 0, false);
        same("//h", "//h:", 8, true);
        same("//h", "//@h", 31, false);
        same("http://h", "http://h/", 8, true);
        same("http://h", "http://h/", 23, false);
        same("s:A", "S:A", 1, true);
        same("s:A", "s:a", 31, false);
        same("/%7e", "/~", 2, true);
        same("/%7e", "/~", 29, false);
        same("/a/./b", "/a/b", 4, true);
        same("//[::1]", "//[0:0:0:0:0:0:0:1]", 16, true);
        same("//[::1]", "//[0:0:0:0:0:0:0:1]", 15, false);
        same("ab", "a", 0, false);
    }
}
