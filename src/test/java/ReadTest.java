/** Promises 3 read and 4 fault. */
public final class ReadTest {
    public static void main(String[] args) {
        schemes();
        codes();
        bytes();
        brackets();
        ports();
        order();
        rightOnes();
        tapeAndLinks();
        faultsStay();
        Check.end();
    }

    private static void fault(String text, String want) {
        Check.due("fault of " + text, Check.faultOf(text), want);
    }

    private static void schemes() {
        fault(":", "1@0");
        fault(":x", "1@0");
        fault("1a:x", "1@0");
        fault("+a:x", "1@0");
        fault("a_b:x", "1@1");
        fault("ab%41:x", "1@2");
        fault("ab%:x", "1@2");
        fault("a b:c:", "1@1");
        fault("a@b:c", "1@1");
        fault("[::1]", "1@0");
        fault("a\u00e9:x", "1@1");
        fault("a+-.9Z:", "0@0");
        fault("Z:", "0@0");
        fault("a/_:x", "0@0");
        fault("a?_:x", "0@0");
        fault("a#_:x", "0@0");
    }

    private static void codes() {
        fault("%", "2@0");
        fault("a%4", "2@1");
        fault("a%4g", "2@1");
        fault("a%g4", "2@1");
        fault("%41%", "2@3");
        fault("%%41", "2@0");
        fault("a/b:%4", "2@4");
        fault("//u%@h", "2@3");
        fault("//h%4", "2@3");
        fault("//h:%4", "2@4");
        fault("//[%zz]", "2@3");
        fault("?%4", "2@1");
        fault("#%4", "2@1");
        fault("%4?1", "2@0");
        fault("%aF?%Fa#%09", "0@0");
    }

    private static void bytes() {
        fault("a b", "3@1");
        fault("//h^", "3@3");
        fault("//h:8a", "3@5");
        fault("//h:%41", "3@4");
        fault("//a@b@h", "3@3");
        fault("//a[b@h", "3@3");
        fault("//a]", "3@3");
        fault("//]:1", "3@2");
        fault("//h:1:2", "3@3");
        fault("//h::", "3@3");
        fault("//x^[::1]", "3@3");
        fault("//x:y[::1]", "3@4");
        fault("//x:1[::1]", "3@5");
        fault("//x:[::1]:80", "3@3");
        fault("//u^@[::g]", "3@3");
        fault("//[::1]:a", "3@8");
        fault("//[::1]:80]", "3@10");
        fault("a[", "3@1");
        fault("a]", "3@1");
        fault("?[", "3@1");
        fault("#a#", "3@2");
        fault("?a?#b?", "0@0");
        fault("\u0000", "3@0");
        fault("a\u007f", "3@1");
        fault("a\u00ff", "3@1");
        fault("/\"", "3@1");
        fault("/<", "3@1");
        fault("/>", "3@1");
        fault("/\\", "3@1");
        fault("/`", "3@1");
        fault("/{", "3@1");
        fault("/|", "3@1");
        fault("/}", "3@1");
        everyByte();
    }

    /** Each byte alone in each part, against the letters that the document lists. */
    private static void everyByte() {
        String free = "ABCDEFGHIJKLMNOPQRSTUVWXYZabcdefghijklmnopqrstuvwxyz0123456789-._~";
        String subs = "!$&'()*+,;=";
        for (char c = 0; c < 256; c++) {
            boolean plain = (free + subs).indexOf(c) >= 0;
            if (c == '%') {
                continue;
            }
            if ("/?#".indexOf(c) < 0) {
                one("//" + c + "@h", 2, c != '@' && (plain || c == ':'));
            }
            if ("/?#@[:".indexOf(c) < 0) {
                one("//" + c, 2, plain);
            }
            if ("/?#@:[".indexOf(c) < 0) {
                one("//h:" + c, 4, c >= '0' && c <= '9');
            }
            if ("?#".indexOf(c) < 0) {
                one("./" + c, 2, plain || c == ':' || c == '@' || c == '/');
            }
            if (c != '#') {
                one("?" + c, 1, plain || c == ':' || c == '@' || c == '/' || c == '?');
            }
            one("#" + c, 1, plain || c == ':' || c == '@' || c == '/' || c == '?');
        }
    }

    private static void one(String text, int place, boolean right) {
        fault(text, right ? "0@0" : "3@" + place);
    }

    private static void brackets() {
        fault("//[::1", "4@2");
        fault("//[::ffff", "4@2");
        fault("//[", "4@2");
        fault("//[]", "4@2");
        fault("//[::1]x", "4@2");
        fault("//[::1]x:80", "4@2");
        fault("//[::1]:1:2", "4@2");
        fault("//[::1][::1]", "4@2");
        fault("//x[::1]", "4@3");
        fault("//%41[::1]:80", "4@5");
        fault("//u@[::1]x", "4@4");
        fault("//[%41]", "4@2");
        fault("//[ ]", "4@2");
        fault("//[1.2.3.4]", "4@2");
        fault("s://[x]", "4@4");
        String[] wrong = {":", ":::", "::g", "12345::", "1::2::3", "1:2:3", "1:2:3:4:5:6:7", "1:2:3:4:5:6:7:8:9",
            "1:2:3:4:5:6:7:8::", "::1:2:3:4:5:6:7:8", "1:2:3:4::5:6:7:8", ":1:2:3:4:5:6:7", "1:2:3:4:5:6:7:",
            ":1::", "::1:", "1::2:", "1:2:3:4:5:6:7:1.2.3.4", "1:2:3:4:5:6::1.2.3.4", "::1.2.3", "::1.2.3.4.5",
            "::01.2.3.4", "::1.2.3.256", "::1.2.3.", "::.1.2.3", "1.2.3.4::", "::1.2.3.4:5", "::1.2.3.a", "::1..2.3",
            "v", "v1", "v1.", "v.a", "vg.a", "v1a", "v1.a%41", "v1.[", "v1./", "w1.a", "v1 .a", "1v.a", "1:2:3:4:5:1.2.3.4"};
        for (String inside : wrong) {
            if (inside.indexOf('/') < 0) {
                fault("//[" + inside + "]", "4@2");
            }
        }
        String[] right = {"::", "::1", "1::", "1:2:3:4:5:6:7:8", "1:2:3:4:5:6:7::", "::2:3:4:5:6:7:8", "1::3:4:5:6:7:8",
            "::1.2.3.4", "1:2:3:4:5:6:1.2.3.4", "1:2:3:4:5::1.2.3.4", "::5:6:7:8:1.2.3.4", "::255.0.10.199", "00AF::fFfF",
            "1::8:0.0.0.0", "v1.a", "VF.:", "v0aF.!$&'()*+,;=-._~:a1", "v1.1.2"};
        for (String inside : right) {
            fault("//[" + inside + "]", "0@0");
            fault("s://u@[" + inside + "]:80/", "0@0");
        }
    }

    private static void ports() {
        fault("//h:65536", "5@4");
        fault("//h:99999", "5@4");
        fault("//h:000000", "5@4");
        fault("//h:000080", "5@4");
        fault("s://u@[::1]:123456/", "5@12");
        fault("//h:" + "9".repeat(390), "5@4");
        fault("//h:65535", "0@0");
        fault("//h:00080", "0@0");
        fault("//h:", "0@0");
        fault("//:0", "0@0");
    }

    /** A lower kind of fault goes before an earlier place. */
    private static void order() {
        fault("^a:%", "1@0");
        fault("a b%4", "2@3");
        fault("//h:99999/%4", "2@10");
        fault("//[x]:99999/ ", "3@12");
        fault("//[x]:99999", "4@2");
        fault("//[::1]x:8a", "3@10");
        fault("//[::g]/^", "3@8");
        fault("a^ b", "3@1");
    }

    private static void rightOnes() {
        String[] right = {"", "/", "//", "///", ".", "?", "#", "?#", "a", "a:", "a:b:c", "./a:b", "//@", "//:", "//@:",
            "//u:p:q@h", "//a!$&'()*+,;=@b!$&'()*+,;=", "/a//b/:@", "mailto:x@y.z", "urn:a:b", "x://y:1/z?a=b&c#d/?"};
        for (String text : right) {
            fault(text, "0@0");
            Check.due("length of " + text, Check.read(new LinkLibrary(), 0, text), text.length());
        }
    }

    private static void tapeAndLinks() {
        LinkLibrary x = Check.with("keep");
        Check.feed(x, "a b");
        Check.fails("a faulty tape", Check.BAD_ARGUMENT, () -> x.read(0));
        Check.due("the link stays", Check.text(x, 0), "keep");
        Check.due("the tape went with the fault", x.feed('q', 1), 1);
        Check.fails("no link 8", Check.NO_LINK, () -> x.read(8));
        Check.due("the tape went without a link", x.feed('q', 1), 1);
        Check.feed(x, " ");
        Check.fails("no link -1, before the fault", Check.NO_LINK, () -> x.read(-1));
        Check.due("an empty tape", x.read(0), 0);
        Check.due("makes an empty link", x.write(0), 0);
    }

    private static void faultsStay() {
        LinkLibrary x = new LinkLibrary();
        Check.feed(x, "//h:65536");
        Check.fails("a faulty port", Check.BAD_ARGUMENT, () -> x.read(0));
        x.write(0);
        Check.feed(x, "x");
        Check.fails("no such part", Check.BAD_ARGUMENT, () -> x.part(0, 7));
        Check.due("the fault stays", x.fault(false), 5);
        Check.due("the place stays", x.fault(true), 4);
        x.read(0);
        Check.due("the fault goes", x.fault(false), 0);
        Check.due("the place goes", x.fault(true), 0);
        Check.feed(x, "a b");
        Check.fails("a faulty path", Check.BAD_ARGUMENT, () -> x.read(0));
        Check.fails("the latest read had no link", Check.NO_LINK, () -> x.read(8));
        Check.due("so it has no fault", x.fault(false), 0);
        Check.due("and no place", x.fault(true), 0);
    }
}
