/** Each sentence of the block of letters, hosts, reading and faults in "Terms", above a test of its own. */
public final class LettersTest {
    private static final String BASE16 = Check.DIGITS + "ABCDEFabcdef";
    private static final String PLAIN = Check.FREE + Check.SUBS;

    public static void main(String[] args) {
        letters();
        codes();
        user();
        path();
        queryAndFragment();
        scheme();
        port();
        name();
        addressOfFour();
        groupsOfSix();
        fourWithinSix();
        doubleColon();
        future();
        readingSchemes();
        readingFragmentsAndQueries();
        readingAuthorities();
        readingUsersAndPorts();
        faultOfSchemes();
        faultOfCodes();
        faultOfBytes();
        faultOfBrackets();
        faultOfPorts();
        firstFaultThatFits();
        firstPlace();
        Check.end();
    }

    /** Puts each byte but those that would end the part into the gap of a text. */
    private static void eachByte(String text, String allowed, String ends) {
        int place = text.indexOf('_');
        for (char c = 0; c < 256; c++) {
            if (ends.indexOf(c) < 0 && c != '%') {
                Check.fault(text.replace('_', c), allowed.indexOf(c) >= 0 ? "0@0" : "3@" + place);
            }
        }
    }

    /** "LETTERS are A .. Z and a .. z": not what stands before and behind them. */
    private static void letters() {
        Check.faults("0@0", "A:", "Z:", "a:", "z:");
        Check.faults("1@0", "@:", "[:", "`:", "{:");
        Check.faults("3@1", "a[", "a`", "a{", "a^", "a\u00c0", "a\u00e0");
    }

    /** "A CODE is %, and two digits 0 .. 9, A .. F, a .. f." */
    private static void codes() {
        for (char c = 0; c < 256; c++) {
            String right = BASE16.indexOf(c) >= 0 ? "0@0" : "2@2";
            Check.fault("./%" + c + "0b", right);
            Check.fault("./%0" + c + "b", right);
        }
        Check.faults("2@1", "a%", "a%0", "a%4", "a%%41");
    }

    /** "User: free bytes, subs, codes, colons." */
    private static void user() {
        eachByte("//_@h", PLAIN + ":", "/?#");
        Check.faults("0@0", "//%00@h", "//:@h", "//::@h", "//a:%fFb:@h");
    }

    /** "Path: these, @ and /." */
    private static void path() {
        eachByte("./_", PLAIN + ":@/", "?#");
        eachByte("//h/_", PLAIN + ":@/", "?#");
        Check.faults("0@0", "s:@:", "%20", "//h/@:%20//");
    }

    /** "Query, fragment: those of a path, and ?." */
    private static void queryAndFragment() {
        eachByte("?_", PLAIN + ":@/?", "#");
        eachByte("#_", PLAIN + ":@/?", "");
        Check.faults("0@0", "?%20", "#%20");
    }

    /** "Scheme: a letter, then letters, digits, + - and points." */
    private static void scheme() {
        for (char c = 0; c < 256; c++) {
            if (":/?#".indexOf(c) >= 0) {
                continue;
            }
            boolean letter = Check.LETTERS.indexOf(c) >= 0;
            boolean later = letter || (Check.DIGITS + "+-.").indexOf(c) >= 0;
            Check.fault(c + ":", letter ? "0@0" : "1@0");
            Check.fault("a" + c + ":", later ? "0@0" : "1@1");
        }
    }

    /** "Port: digits." */
    private static void port() {
        eachByte("//h:_", Check.DIGITS, "/?#@:");
        eachByte("//h:1_", Check.DIGITS, "/?#@:");
        Check.fault("//h:%30", "3@4");
    }

    /** "Host: a NAME of free bytes, subs and codes, perhaps empty". */
    private static void name() {
        eachByte("//_", PLAIN, "/?#@:[");
        Check.faults("0@0", "//", "//%00", "//@", "//:");
        kinds(1, "", "h", "%31.2.3.4", "1", "a.b", "!$&'()*+,;=-._~");
    }

    private static void kinds(int want, String... hosts) {
        for (String host : hosts) {
            LinkLibrary x = Check.with("//" + host, "s://u@" + host + ":1/");
            Check.due("host " + host, x.host(0), want);
            Check.due("host among others " + host, x.host(1), want);
        }
    }

    /** "an ADDRESS OF FOUR, if it has four numbers 0 .. 255 with points between, each without zeros before it". */
    private static void addressOfFour() {
        for (int number = 0; number < 1000; number++) {
            int kind = number <= 255 ? 2 : 1;
            Check.due("number " + number, Check.with("//" + number + ".1.1." + number).host(0), kind);
        }
        kinds(2, "0.0.0.0", "255.255.255.255", "10.20.30.40", "9.99.199.249");
        kinds(1, "256.0.0.0", "0.256.0.0", "0.0.256.0", "0.0.0.256", "1000.1.1.1", "4294967297.1.1.1");
        kinds(1, "00.1.1.1", "1.01.1.1", "1.1.001.1", "1.1.1.000", "1.1.1.0255");
        kinds(1, "1.1.1", "1.1.1.1.1", "1.1.1.", ".1.1.1", ".1.1.1.1", "1.1.1.1.", "1..1.1", "...", "1,1.1.1", "1.1.1.a", "-1.1.1.1");
    }

    private static void insides(String want, String... insides) {
        for (String inside : insides) {
            Check.fault("//[" + inside + "]", want);
        }
    }

    /** "an ADDRESS OF SIX: eight GROUPS of one to four digits of base 16, with colons between". */
    private static void groupsOfSix() {
        insides("0@0", "0:0:0:0:0:0:0:0", "1:12:123:1234:a:AB:abC:fFfF", "0000:0000:0000:0000:0000:0000:0000:0000");
        insides("4@2", "", "1", "1:2:3:4:5:6:7", "1:2:3:4:5:6:7:8:9", "1:2:3:4:5:6:7:12345", "12345:2:3:4:5:6:7:8",
            "1:2:3:4:5:6:7:00000", "1:2:3:4:5:6:7:", ":2:3:4:5:6:7:8", "1:2:3:4:5:6:7:8:", ":1:2:3:4:5:6:7:8", "1.2:3:4:5:6:7:8");
        for (char c = 0; c < 256; c++) {
            if ("/?#%@]:".indexOf(c) < 0) {
                insides(BASE16.indexOf(c) >= 0 ? "0@0" : "4@2", "1:2:3:4:5:6:7:" + c, c + "1:2:3:4:5:6:7:8");
            }
        }
        kinds(3, "[0:0:0:0:0:0:0:0]", "[::]");
    }

    /** "the last two may be an address of four instead": with all that holds for one. */
    private static void fourWithinSix() {
        insides("0@0", "1:2:3:4:5:6:7.8.9.10", "1:2:3:4:5:6:255.255.255.255", "1:2:3:4:5::0.0.0.0", "::0.0.0.0", "1::9.9.9.9");
        insides("4@2", "1:2:3:4:5:6:7:8.9.1.2", "1:2:3:4:5:6.7.8.9", "1:2:3:4:5:6:256.1.1.1", "1:2:3:4:5:6:01.1.1.1",
            "1:2:3:4:5:6:1.1.1", "1:2:3:4:5:6:1.1.1.1.1", "1:2:3:4:5:6:1.1.1.", "1:2:3:4:5:6:.1.1.1", "1:2:3:4:5:6:a.1.1.1",
            "1.1.1.1:3:4:5:6:7:8", "1.1.1.1::", "::1.1.1.1:7", "::1.1.1.1:", "1:2:3:4:5:1.1.1.1:8", "1.1.1.1", "::1.1.1.1::");
    }

    /** "at one place :: may stand for one or more groups of 0, however many there are to be". */
    private static void doubleColon() {
        StringBuilder before = new StringBuilder();
        for (int groups = 0; groups <= 7; groups++) {
            for (int behind = 0; behind <= 8; behind++) {
                String tail = "8:7:6:5:4:3:2:1".substring(0, Math.max(2 * behind - 1, 0));
                String want = groups + behind <= 7 ? "0@0" : "4@2";
                insides(want, before + "::" + tail);
            }
            before.append(groups == 0 ? "" : ":").append(groups + 1);
        }
        insides("4@2", "::1::", "1::2::3", ":::", "1:::2", "::::", "1:2:3:4:5:6:7:8::", "1:2:3:4:5:6::1.1.1.1", ":", "1:", ":1", "::1:", ":1::");
    }

    /** "v or V, digits of base 16, a point, and free bytes, subs and colons (each at least one)". */
    private static void future() {
        insides("0@0", "v1.a", "VF.:", "v00.-._~", "V0123456789abcdefABCDEF.!$&'()*+,;=:");
        insides("4@2", "v", "V", "v.", "v1", "v1.", "v.a", "1.a", "w1.a", "vg.a", "v1g.a", "v 1.a", "v1:a", "v1.%41", "v1.a%41", "v1.[a", "v1.\u00e9");
        for (char c = 0; c < 256; c++) {
            if ("/?#%@]".indexOf(c) < 0) {
                insides((PLAIN + ":").indexOf(c) >= 0 ? "0@0" : "4@2", "v1." + c);
                insides(BASE16.indexOf(c) >= 0 ? "0@0" : "4@2", "v" + c + ".a");
            }
        }
        kinds(4, "[v1.a]", "[V1.:]");
    }

    /** The parts that are there, each behind its number. */
    private static void parts(String text, String want) {
        LinkLibrary x = Check.with(text);
        StringBuilder told = new StringBuilder();
        for (int part = 0; part < 7; part++) {
            int length = x.part(0, part);
            told.append(length < 0 ? "" : part + "{" + Check.out(x, length) + "}");
        }
        Check.due("parts of " + text, told.toString(), want);
    }

    /** "the scheme is what stands before the first colon, if that stands before all / ? and #". */
    private static void readingSchemes() {
        parts("a:b:c", "0{a}4{b:c}");
        parts("a:", "0{a}4{}");
        parts("a:/b:", "0{a}4{/b:}");
        parts("/a:b", "4{/a:b}");
        parts("a/:b", "4{a/:b}");
        parts("?a:b", "4{}5{a:b}");
        parts("a?:b", "4{a}5{:b}");
        parts("#a:b", "4{}6{a:b}");
        parts("a#:b", "4{a}6{:b}");
    }

    /** "the fragment is behind the first #, the query behind the first ? before that". */
    private static void readingFragmentsAndQueries() {
        parts("a?b?c#d?e", "4{a}5{b?c}6{d?e}");
        parts("a#b?c", "4{a}6{b?c}");
        parts("a?#", "4{a}5{}6{}");
        parts("??", "4{}5{?}");
        parts("#?", "4{}6{?}");
        Check.fault("a#b#c", "3@3");
    }

    /** "// behind the scheme begins an authority, up to the first / ? or #". */
    private static void readingAuthorities() {
        parts("s://h/p", "0{s}2{h}4{/p}");
        parts("//h", "2{h}4{}");
        parts("//h?q", "2{h}4{}5{q}");
        parts("//h#f", "2{h}4{}6{f}");
        parts("////", "2{}4{//}");
        parts("s:/", "0{s}4{/}");
        parts("/", "4{/}");
        parts("s:/h//p", "0{s}4{/h//p}");
        parts("h//p", "4{h//p}");
        parts("s:a//p", "0{s}4{a//p}");
        parts("?//h", "4{}5{//h}");
    }

    /** "the user is what is before its last @, the port what is behind the last colon that is not in [ ]". */
    private static void readingUsersAndPorts() {
        parts("//u:v:w@h:1", "1{u:v:w}2{h}3{1}4{}");
        parts("//@h", "1{}2{h}4{}");
        parts("//h:", "2{h}3{}4{}");
        parts("//:1", "2{}3{1}4{}");
        parts("//[::1]", "2{[::1]}4{}");
        parts("//[::1]:", "2{[::1]}3{}4{}");
        parts("//a:1@[v1.:]:2/@:", "1{a:1}2{[v1.:]}3{2}4{/@:}");
        Check.fault("//a@b@h", "3@3");
        Check.fault("//h:1:2", "3@3");
        Check.fault("//[::1]:2:3", "4@2");
        Check.fault("//[a@b]", "3@2");
    }

    /** "1 a scheme that is none (also an empty one): where it is wrong, or its colon". */
    private static void faultOfSchemes() {
        Check.faults("1@0", ":", "::", ":a", ":/", "1:", "%41:", "-a:", "+:", ".:", "\u00e9:", "[::1]");
        Check.faults("1@1", "a_:", "a%41:", "a b:", "a~:1", "Z@h:1");
        Check.fault("abcdefgh!:", "1@8");
    }

    /** "2 a % that is no code": wherever it stands. */
    private static void faultOfCodes() {
        Check.faults("2@0", "%", "%4", "%4g", "%g4", "%%41", "%4/1", "%4?1", "%4#1");
        Check.faults("2@3", "//a%@h", "//h%4", "//[%4]", "//h%", "s:/%", "s:a%x", "a?b%4", "a#b%x");
        Check.fault("//h:%4", "2@4");
        Check.fault("a" + "%41".repeat(132) + "%", "2@397");
    }

    /** "3 a byte that may not stand in its part (of hosts, those ahead of a [)". */
    private static void faultOfBytes() {
        Check.faults("3@2", "//^", "//]", "//^[::1]", "//[@h", "//^@h", "//\"");
        Check.faults("3@3", "//h]", "//h^[", "//x:[::1]:80");
        Check.fault("//[::1]:8]", "3@9");
        Check.faults("4@2", "//[^", "//[^]", "//[::1]^", "//[::1]^:1");
    }

    /** "4 what stands in [ ] is none, or the ] is missing, or something but a port follows it, or is before it: at the [". */
    private static void faultOfBrackets() {
        Check.faults("4@2", "//[]", "//[x]", "//[1]", "//[1.2.3.4]", "//[%41]", "//[::1%25a]");
        Check.faults("4@2", "//[", "//[::1", "//[::", "//[v1.a", "//[::1/", "//[::1?a", "//[::1#");
        Check.faults("4@2", "//[::1]x", "//[::1]]", "//[::1][::1]", "//[::1]x:80", "//[::1]1", "//[::1].");
        Check.faults("4@3", "//x[::1]", "//1[::1]:80", "//x[", "//x[]");
        Check.faults("4@6", "s://u@[x]", "//a@bc[::1]");
        Check.faults("0@0", "//[::1]", "//[::1]:", "//[::1]:80", "//u@[::1]", "//[::1]/x", "//[::1]?x", "//[::1]#x");
    }

    /** "5 a port above 65535, or of more than five digits: at its first digit". */
    private static void faultOfPorts() {
        Check.faults("0@0", "//h:0", "//h:65535", "//h:00000", "//h:00080", "//h:");
        Check.faults("5@4", "//h:65536", "//h:99999", "//h:000000", "//h:065535", "//h:4294967297", "//h:" + "0".repeat(396));
        Check.fault("s://[::1]:65536/", "5@10");
        Check.fault("//:65536", "5@3");
    }

    /** "FAULTS, the first of these that fits": a lower number goes before an earlier place. */
    private static void firstFaultThatFits() {
        Check.fault("%x_:", "1@0");
        Check.fault("a^b:%", "1@1");
        Check.fault("a^%", "2@2");
        Check.fault("//[x]:99999/%", "2@12");
        Check.fault("//[x]:99999/^", "3@12");
        Check.fault("//[x]:9a", "3@7");
        Check.fault("//[x]:99999", "4@2");
        Check.fault("//h:99999/^", "3@10");
    }

    /** "at the first place". */
    private static void firstPlace() {
        Check.fault("a_b_:", "1@1");
        Check.fault("a%41%g%41%", "2@4");
        Check.fault("^^", "3@0");
        Check.fault("a?^#^", "3@2");
        Check.fault("//^@^:^/^?^#^", "3@2");
        Check.fault("//a@^:^/^", "3@4");
        Check.fault("//a@b:^/^", "3@6");
        Check.fault("//[[x]", "4@2");
    }
}
