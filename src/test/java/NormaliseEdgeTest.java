/** Each sentence of the promises 11, normalise, and 13, same, that names an edge, above a test of its own. */
public final class NormaliseEdgeTest {
    public static void main(String[] args) {
        lettersOfSchemeAndHost();
        lettersOfCodes();
        codesOfFreeBytes();
        dotsWithSchemeOrSlash();
        guardedPaths();
        emptyPorts();
        ownPorts();
        schemeAsItStands();
        emptyPaths();
        eightGroups();
        longestRow();
        otherHostsStay();
        eachBitAlone();
        inThisOrder();
        wrongBits();
        tooLong();
        sameByteByByte();
        sameWhateverTheirLengths();
        sameByWrongBits();
        linksThatAreNone();
        Check.end();
    }

    private static void normal(String text, int how, String want) {
        LinkLibrary x = Check.with(text, "t://v@i:2/o?r#g");
        String what = text + " by " + how;
        Check.due("length of " + what, x.normalise(1, 0, how), want.length());
        Check.due(what, Check.text(x, 1), want);
        Check.due("the other one of " + what, Check.text(x, 0), text);
        Check.due("a normal form by " + how, x.same(1, 1, how), true);
    }

    /** By one bit, and not by all the others. */
    private static void alone(String text, int bit, String want) {
        normal(text, bit, want);
        LinkLibrary x = Check.with(text);
        x.normalise(1, 0, 31 - bit);
        Check.due(text + " by others than " + bit, Check.text(x, 1).equals(want), text.equals(want));
    }

    /** "1 letters of scheme and host become small": no others. */
    private static void lettersOfSchemeAndHost() {
        normal("AZaz19+-.://AZaz@AZaz19-._~:1/AZ?AZ#AZ", 1, "azaz19+-.://AZaz@azaz19-._~:1/AZ?AZ#AZ");
        normal("A:B", 1, "a:B");
        normal("//A", 1, "//a");
        normal("A", 1, "A");
        normal("//[ABCD:EF::]", 1, "//[abcd:ef::]");
        normal("//[VF.XyZ]", 1, "//[vf.xyz]");
    }

    /** "those of codes great (everywhere)": not what stands behind a code, or tells no digit. */
    private static void lettersOfCodes() {
        normal("s://%ab@%cd/%ef?%aF#%Fa", 1, "s://%AB@%CD/%EF?%AF#%FA");
        normal("/%0a%a0ab", 1, "/%0A%A0ab");
        normal("//%0aA%a0", 1, "//%0Aa%A0");
        normal("/%25ab%25", 1, "/%25ab%25");
        normal("/%2541", 1, "/%2541");
    }

    /** "2 codes of free bytes become these": all of them, no others, and none twice. */
    private static void codesOfFreeBytes() {
        for (int code = 0; code < 256; code++) {
            String small = String.format("%%%02x", code);
            boolean free = Check.FREE.indexOf(code) >= 0;
            String want = free ? "" + (char) code : small;
            normal("//h/" + small, 2, "//h/" + want);
            normal("//" + small + "@" + small + "/" + small + "?" + small + "#" + small + small, 2,
                "//" + want + "@" + want + "/" + want + "?" + want + "#" + want + want);
        }
        normal("/%2541%25%34%31", 2, "/%2541%2541");
        normal("//%31.2.3.4", 2, "//1.2.3.4");
    }

    /** "4 dots of the path are removed, if there is a scheme, or it begins with /". */
    private static void dotsWithSchemeOrSlash() {
        alone("s:a/../b", 4, "s:b");
        alone("s:..", 4, "s:");
        alone("/a/../b", 4, "/b");
        alone("/..", 4, "/");
        alone("//h/./a/..", 4, "//h/");
        alone("a/../b", 4, "a/../b");
        alone("./a", 4, "./a");
        alone("..", 4, "..");
        alone("a/..?b", 4, "a/..?b");
        alone("//h", 4, "//h");
        alone("", 4, "");
    }

    /** "(and then /. put before it as above)": if there is no authority, and it begins with //. */
    private static void guardedPaths() {
        alone("/..//a", 4, "/.//a");
        alone("/a/..//b", 4, "/.//b");
        alone("s:/..//a", 4, "s:/.//a");
        alone("s:.///a", 4, "s:/.//a");
        alone("s:.//a", 4, "s:/a");
        alone("/.//a", 4, "/.//a");
        alone("/.//", 4, "/.//");
        alone("//h/.//a", 4, "//h//a");
        alone("s://h/.//a", 4, "s://h//a");
        alone(".//a", 4, ".//a");
    }

    /** "8 an empty port goes": whatever the scheme is, or none. */
    private static void emptyPorts() {
        alone("//h:", 8, "//h");
        alone("//:", 8, "//");
        alone("x://h:/a", 8, "x://h/a");
        alone("//u@h:?q", 8, "//u@h?q");
        alone("http://h:/", 8, "http://h/");
        alone("//[::1]:#f", 8, "//[::1]#f");
        alone("//h:0", 8, "//h:0");
    }

    /** "also one that is, as a number (080, too), the scheme's own (http, ws: 80, https, wss: 443, ftp: 21 ...)". */
    private static void ownPorts() {
        String[] schemes = {"http", "ws", "https", "wss", "ftp", "x", "htt", "httpss", "w", "ftps", "sftp"};
        int[] own = {80, 80, 443, 443, 21, -1, -1, -1, -1, -1, -1};
        for (int i = 0; i < schemes.length; i++) {
            String before = schemes[i] + "://h";
            for (int port : new int[] {0, 8, 20, 21, 22, 79, 80, 81, 442, 443, 444, 800, 65535}) {
                String gone = port == own[i] ? "" : ":" + port;
                normal(before + ":" + port + "/", 8, before + gone + "/");
            }
            normal(before + ":080/", 8, before + (own[i] == 80 ? "" : ":080") + "/");
            normal(before + ":00080/", 8, before + (own[i] == 80 ? "" : ":00080") + "/");
            normal(before + ":0443/", 8, before + (own[i] == 443 ? "" : ":0443") + "/");
            normal(before + ":00021/", 8, before + (own[i] == 21 ? "" : ":00021") + "/");
        }
        normal("//h:80/", 8, "//h:80/");
    }

    /** "as it stands then, in small letters": a great one is none of these, but behind bit 1 it is small. */
    private static void schemeAsItStands() {
        normal("HTTP://h:80", 8, "HTTP://h:80");
        normal("httP://h:80", 8, "httP://h:80");
        normal("HTTP://h:80", 9, "http://h/");
        normal("Wss://h:443", 8, "Wss://h:443");
        normal("Wss://h:443", 9, "wss://h/");
        normal("HTTP://h:", 8, "HTTP://h");
    }

    /** "with one of these schemes and an authority, an empty path becomes /". */
    private static void emptyPaths() {
        for (String scheme : new String[] {"http", "ws", "https", "wss", "ftp"}) {
            normal(scheme + "://h", 8, scheme + "://h/");
            normal(scheme + "://h:1?q#f", 8, scheme + "://h:1/?q#f");
            normal(scheme + "://", 8, scheme + ":///");
            normal(scheme + ":", 8, scheme + ":");
            normal(scheme + ":?q", 8, scheme + ":?q");
            normal(scheme + "://h/a", 8, scheme + "://h/a");
        }
        normal("x://h", 8, "x://h");
        normal("//h", 8, "//h");
        normal("http://h", 23, "http://h");
        normal("http:..", 12, "http:");
    }

    private static void six(String inside, String want) {
        normal("s://u@[" + inside + "]:1/", 16, "s://u@[" + want + "]:1/");
    }

    /** "16 an address of six is written as eight groups without zeros before them, small letters". */
    private static void eightGroups() {
        six("0001:0012:0123:1234:0aB0:00CD:000e:F000", "1:12:123:1234:ab0:cd:e:f000");
        six("1:2:3:4:5:6:7.8.9.10", "1:2:3:4:5:6:708:90a");
        six("1:2:3:4:5:6:255.255.255.255", "1:2:3:4:5:6:ffff:ffff");
        six("1:2:3:4:5:6:0.16.1.0", "1:2:3:4:5:6:10:100");
        six("ABCD:EF01:2345:6789:aBcD:Ef01:2345:6789", "abcd:ef01:2345:6789:abcd:ef01:2345:6789");
    }

    /** "the longest row of two or more groups of 0 (of several the first) as ::": for each row of zeros there is. */
    private static void longestRow() {
        for (int bits = 0; bits < 256; bits++) {
            StringBuilder all = new StringBuilder();
            for (int i = 0; i < 8; i++) {
                all.append(i == 0 ? "" : ":").append((bits >> i & 1) == 0 ? "0" : "" + (i + 1));
            }
            six(all.toString(), withLongestRow(all.toString()));
        }
        six("1:0:0:2:0:0:0:3", "1:0:0:2::3");
        six("1:0:0:2:3:0:0:4", "1::2:3:0:0:4");
        six("0:0:0:1:0:0:0:1", "::1:0:0:0:1");
        six("1:2:3:4:5:6:7::", "1:2:3:4:5:6:7:0");
        six("::2:3:4:5:6:7:8", "0:2:3:4:5:6:7:8");
        six("1:2:3:4:5:6::", "1:2:3:4:5:6::");
        six("0:0:3:4:5:6:7:8", "::3:4:5:6:7:8");
        six("::", "::");
        six("::0.0.0.0", "::");
        six("1::0.0.0.1", "1::1");
    }

    /** By looking for the zeros in the text, the longest row first. */
    private static String withLongestRow(String all) {
        String marked = ":" + all + ":";
        for (int length = 8; length >= 2; length--) {
            String zeros = ":0".repeat(length) + ":";
            int place = marked.indexOf(zeros);
            if (place >= 0) {
                String left = marked.substring(0, place);
                String right = marked.substring(place + zeros.length());
                return left.replaceFirst("^:", "") + "::" + right.replaceFirst(":$", "");
            }
        }
        return all;
    }

    /** "an address of six": other hosts stay, what looks like one in other parts, too. */
    private static void otherHostsStay() {
        normal("//[vA.00:0:0]", 16, "//[vA.00:0:0]");
        normal("//0.0.0.0", 16, "//0.0.0.0");
        normal("//00AB", 16, "//00AB");
        normal("//0:0@h/0:0:0?0:0:0#0:0:0", 16, "//0:0@h/0:0:0?0:0:0#0:0:0");
        normal("", 16, "");
    }

    /** "normalised by the bits of how": each does its own alone, and 0 nothing. */
    private static void eachBitAlone() {
        String text = "HTTP://H%4a:/%7e/../%3a";
        normal(text, 0, text);
        normal(text, 1, "http://h%4A:/%7E/../%3A");
        normal(text, 2, "HTTP://HJ:/~/../%3a");
        normal(text, 4, "HTTP://H%4a:/%3a");
        normal(text, 8, "HTTP://H%4a/%7e/../%3a");
        normal(text, 16, text);
        normal(text, 31, "http://hJ/%3A");
        normal("HTTP://[0:0::A]:80", 31, "http://[::a]/");
    }

    /** "in this order": what an earlier bit makes counts for a later one, and not the other way. */
    private static void inThisOrder() {
        normal("//%41%6a", 3, "//Aj");
        normal("s:a/%2e%2E/b", 6, "s:b");
        normal("s:a/%2e%2E/b", 4, "s:a/%2e%2E/b");
        normal("/%2E/%2e%2e//b", 6, "/.//b");
        normal("HTTP://h:80", 9, "http://h/");
        normal("http://h/..", 12, "http://h/");
    }

    /** "IllegalArgument: how is not 0 .. 31." */
    private static void wrongBits() {
        LinkLibrary x = Check.with("HTTP://H", "keep");
        for (int how : new int[] {-1, 32, 33, 63, -31, -32, 1 << 30, Integer.MIN_VALUE, Integer.MAX_VALUE}) {
            Check.fails("by " + how, Check.BAD_ARGUMENT, () -> x.normalise(1, 0, how));
        }
        Check.due("the link stays", Check.text(x, 1), "keep");
        for (int how = 0; how <= 31; how++) {
            Check.due("by " + how, x.normalise(1, 0, how), how / 8 % 2 == 1 && how % 2 == 1 ? 9 : 8);
        }
    }

    /** "UnsupportedOperation: it would have more than 400 bytes": when all bits are done. */
    private static void tooLong() {
        String tail = "?" + "q".repeat(391);
        LinkLibrary x = Check.with("http://h" + tail, "keep");
        Check.fails("401 bytes", Check.UNSUPPORTED, () -> x.normalise(1, 0, 8));
        Check.fails("401 bytes by all", Check.UNSUPPORTED, () -> x.normalise(0, 0, 31));
        Check.due("the link stays", Check.text(x, 1), "keep");
        Check.due("so does the other one", x.write(0), 400);
        Check.due("400 bytes", x.normalise(1, 0, 23), 400);
        LinkLibrary y = Check.with("http://h" + tail.substring(1));
        Check.due("400 bytes with the /", y.normalise(0, 0, 8), 400);
        LinkLibrary z = Check.with("http://[::0]?" + "q".repeat(387));
        Check.fails("401 bytes with the / alone", Check.UNSUPPORTED, () -> z.normalise(1, 0, 8));
        Check.due("400 bytes with a shorter host", z.normalise(1, 0, 24), 400);
    }

    private static void same(String one, String two, int how, boolean want) {
        LinkLibrary x = Check.with(one, two);
        Check.due(one + " the same as " + two + " by " + how, x.same(0, 1, how), want);
        Check.due(two + " the same as " + one + " by " + how, x.same(1, 0, how), want);
        Check.due("one as it was", Check.text(x, 0), one);
        Check.due("two as it was", Check.text(x, 1), two);
    }

    /** "Whether two links are the same, byte by byte, when both are normalised so": an empty part is not none. */
    private static void sameByteByByte() {
        same("", "", 0, true);
        same("s://u@h:1/p?q#f", "s://u@h:1/p?q#f", 0, true);
        String[] parts = {"", "?", "#", "?#", "//", "//@", "//:", "s:", "a", "/", "a?", "a#", "a:", "b"};
        for (int i = 0; i < parts.length; i++) {
            for (int k = 0; k < i; k++) {
                same(parts[i], parts[k], 0, false);
            }
        }
        same("S://H", "s://h", 1, true);
        same("S://H", "s://h", 30, false);
        same("/%7e", "/~", 2, true);
        same("/%7e", "/~", 29, false);
        same("/a/../b", "/b", 4, true);
        same("/a/../b", "/b", 27, false);
        same("//h:", "//h", 8, true);
        same("//h:", "//h", 23, false);
        same("http://h:80", "http://h/", 8, true);
        same("//[0::0]", "//[::]", 16, true);
        same("//[0::0]", "//[::]", 15, false);
        same("/%3a", "/%3A", 1, true);
        same("/%3a", "/:", 31, false);
        same("//H%41", "//ha", 3, false);
        same("a/../b", "b", 4, false);
    }

    /** "(whatever their lengths)": also when normalise would refuse them. */
    private static void sameWhateverTheirLengths() {
        String query = "?" + "q".repeat(391);
        LinkLibrary x = Check.with("http://h" + query, "http://h:/" + query.substring(2));
        Check.due("both beyond 400 or not", x.same(0, 1, 8), false);
        Check.due("with itself", x.same(0, 0, 8), true);
        Check.read(x, 2, "HTTP://H" + query);
        Check.due("both beyond 400", x.same(0, 2, 9), true);
        Check.due("both beyond 400, by others", x.same(0, 2, 8), false);
        Check.read(x, 3, "http://h" + query.substring(1) + "r");
        Check.due("their last byte counts", x.same(0, 3, 8), false);
    }

    /** "IllegalArgument: as there." */
    private static void sameByWrongBits() {
        LinkLibrary x = new LinkLibrary();
        for (int how : new int[] {-1, 32, 64, Integer.MIN_VALUE, Integer.MAX_VALUE}) {
            Check.fails("same by " + how, Check.BAD_ARGUMENT, () -> x.same(0, 0, how));
        }
        for (int how = 0; how <= 31; how++) {
            Check.due("same by " + how, x.same(0, 7, how), true);
        }
    }

    /** "IndexOutOfBounds: there is no such link". */
    private static void linksThatAreNone() {
        LinkLibrary x = new LinkLibrary();
        for (int link : new int[] {-1, 8, Integer.MIN_VALUE, Integer.MAX_VALUE}) {
            Check.fails("normalise " + link, Check.NO_LINK, () -> x.normalise(link, 0, 0));
            Check.fails("normalise from " + link, Check.NO_LINK, () -> x.normalise(0, link, 0));
            Check.fails("same " + link, Check.NO_LINK, () -> x.same(link, 0, 0));
            Check.fails("same as " + link, Check.NO_LINK, () -> x.same(0, link, 0));
        }
    }
}
