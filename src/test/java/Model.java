import java.util.ArrayList;
import java.util.Arrays;
import java.util.List;
import java.util.Locale;
import java.util.Objects;
import java.util.regex.Matcher;
import java.util.regex.Pattern;

/**
 * The document once more, as plainly as texts and patterns allow: links are texts, and each call reads
 * them anew. It shares no code with the program, so that both go wrong at one place only by chance.
 */
final class Model {
    private static final Pattern REFERENCE = Pattern.compile(
        "(?:([^:/?#]*):)?(?://([^/?#]*))?([^?#]*)(?:\\?([^#]*))?(?:#(.*))?", Pattern.DOTALL);
    private static final Pattern SCHEME = Pattern.compile("[A-Za-z][A-Za-z0-9+.-]*");
    private static final Pattern NO_CODE = Pattern.compile("%(?![0-9A-Fa-f]{2})");
    private static final Pattern CODE = Pattern.compile("%([0-9A-Fa-f]{2})");
    private static final Pattern BRACKETS = Pattern.compile("\\[[^\\]]*(?:\\]|$)", Pattern.DOTALL);
    private static final String FREE = "A-Za-z0-9._~\\-";
    private static final String NAME = FREE + "!$&'()*+,;=%";
    private static final String OCTET = "(?:25[0-5]|2[0-4][0-9]|1[0-9][0-9]|[1-9][0-9]|[0-9])";
    private static final Pattern FOUR = Pattern.compile(OCTET + "(?:\\." + OCTET + "){3}");
    private static final Pattern FUTURE = Pattern.compile("[vV][0-9A-Fa-f]+\\.[" + FREE + "!$&'()*+,;=:]+");
    private static final Pattern GROUP = Pattern.compile("[0-9A-Fa-f]{1,4}");
    /** What must not stand in user, host, port, path, query and fragment. */
    private static final String[] WRONG = {"[^" + NAME + ":]", "[^" + NAME + "]", "[^0-9]", "[^" + NAME + ":@/]",
        "[^" + NAME + ":@/?]", "[^" + NAME + ":@/?]"};

    private final String[] links = new String[8];
    private String tape = "";
    private String out = "";
    private int fault;
    private int place;

    Model() {
        Arrays.fill(links, "");
    }

    /** The parts in their order, null for one that is not there. */
    private record Ref(String scheme, String user, String host, String port, String path, String query,
            String fragment) {
        static Ref of(String text) {
            Matcher m = REFERENCE.matcher(text);
            if (!m.matches()) {
                throw new AssertionError(text);
            }
            String authority = m.group(2);
            if (authority == null) {
                return new Ref(m.group(1), null, null, null, m.group(3), m.group(4), m.group(5));
            }
            int at = authority.lastIndexOf('@');
            String user = at < 0 ? null : authority.substring(0, at);
            String rest = authority.substring(at + 1);
            int colon = BRACKETS.matcher(rest).replaceAll(r -> "x".repeat(r.group().length())).lastIndexOf(':');
            String host = colon < 0 ? rest : rest.substring(0, colon);
            String port = colon < 0 ? null : rest.substring(colon + 1);
            return new Ref(m.group(1), user, host, port, m.group(3), m.group(4), m.group(5));
        }

        private static String mark(String before, String text, String behind) {
            return text == null ? "" : before + text + behind;
        }

        String text() {
            return mark("", scheme, ":") + (host == null ? "" : "//") + mark("", user, "@") + mark("", host, "")
                + mark(":", port, "") + path + mark("?", query, "") + mark("#", fragment, "");
        }

        List<String> all() {
            return Arrays.asList(scheme, user, host, port, path, query, fragment);
        }

        Ref withPath(String other) {
            return new Ref(scheme, user, host, port, other, query, fragment);
        }

        /** Takes care that the path is not read as an authority. */
        Ref guarded() {
            return host == null && path.startsWith("//") ? withPath("/." + path) : this;
        }
    }

    private Ref ref(int link) {
        need(link);
        return Ref.of(links[link]);
    }

    private static void need(int link) {
        if (link < 0 || link > 7) {
            throw new IndexOutOfBoundsException();
        }
    }

    private int keep(int link, Ref ref) {
        String text = ref.text();
        if (text.length() > 400) {
            throw new UnsupportedOperationException();
        }
        links[link] = text;
        return text.length();
    }

    private int show(String text) {
        out = text == null ? "" : text;
        return text == null ? -1 : text.length();
    }

    String take() {
        String text = tape;
        tape = "";
        return text;
    }

    int feed(long bytes, int n) {
        if (n < 1 || n > 8) {
            throw new IllegalArgumentException();
        }
        if (tape.length() + n > 400) {
            throw new IllegalStateException();
        }
        for (int i = 0; i < n; i++) {
            tape += (char) (bytes >> 8 * i & 255);
        }
        return tape.length();
    }

    int read(int link) {
        String text = take();
        fault = 0;
        place = 0;
        need(link);
        Ref ref = Ref.of(text);
        findFault(text, ref);
        if (fault != 0) {
            throw new IllegalArgumentException();
        }
        links[link] = text;
        return text.length();
    }

    private void findFault(String text, Ref ref) {
        if (ref.scheme != null && !SCHEME.matcher(ref.scheme).matches()) {
            Matcher m = SCHEME.matcher(ref.scheme);
            fault = 1;
            place = m.lookingAt() ? m.end() : 0;
            return;
        }
        Matcher m = NO_CODE.matcher(text);
        if (m.find()) {
            fault = 2;
            place = m.start();
            return;
        }
        int afterScheme = ref.scheme == null ? 0 : ref.scheme.length() + 1;
        int user = afterScheme + (ref.host == null ? 0 : 2);
        int host = user + (ref.user == null ? 0 : ref.user.length() + 1);
        int port = host + (ref.host == null ? 0 : ref.host.length()) + (ref.port == null ? 0 : 1);
        int path = port + (ref.port == null ? 0 : ref.port.length());
        int query = path + ref.path.length() + 1;
        int fragment = ref.fragment == null ? 0 : text.length() - ref.fragment.length();
        int open = ref.host == null ? -1 : ref.host.indexOf('[');
        String name = open < 0 ? ref.host : ref.host.substring(0, open);
        String[] rows = {ref.user, name, ref.port, ref.path, ref.query, ref.fragment};
        int[] starts = {user, host, port, path, query, fragment};
        for (int i = 0; i < rows.length; i++) {
            Matcher wrong = Pattern.compile(WRONG[i], Pattern.DOTALL).matcher(rows[i] == null ? "" : rows[i]);
            if (wrong.find()) {
                fault = 3;
                place = starts[i] + wrong.start();
                return;
            }
        }
        if (open >= 0 && kind(ref.host) < 3) {
            fault = 4;
            place = host + open;
        } else if (ref.port != null && (ref.port.length() > 5 || portOf(ref) > 65535)) {
            fault = 5;
            place = port;
        }
    }

    int fault(boolean where) {
        return where ? place : fault;
    }

    int write(int link) {
        need(link);
        return show(links[link]);
    }

    int part(int link, int part) {
        Ref ref = ref(link);
        if (part < 0 || part > 6) {
            throw new IllegalArgumentException();
        }
        return show(ref.all().get(part));
    }

    private static int kind(String host) {
        if (host == null) {
            return 0;
        }
        if (FOUR.matcher(host).matches()) {
            return 2;
        }
        if (!host.startsWith("[") || !host.endsWith("]") || host.length() < 2) {
            return 1;
        }
        String inside = host.substring(1, host.length() - 1);
        return groups(inside) != null ? 3 : FUTURE.matcher(inside).matches() ? 4 : 1;
    }

    /** The eight groups of an address of six, or null. */
    private static int[] groups(String text) {
        String all = text;
        String last = text.substring(text.lastIndexOf(':') + 1);
        if (FOUR.matcher(last).matches()) {
            int bits = bitsOfFour(last);
            all = text.substring(0, text.length() - last.length())
                + Integer.toHexString(bits >>> 16) + ":" + Integer.toHexString(bits & 65535);
        }
        int gap = all.indexOf("::");
        if (gap < 0) {
            return numbers(all.split(":", -1), 8);
        }
        if (all.indexOf("::", gap + 1) >= 0) {
            return null;
        }
        String left = all.substring(0, gap);
        String right = all.substring(gap + 2);
        String[] before = left.isEmpty() ? new String[0] : left.split(":", -1);
        String[] behind = right.isEmpty() ? new String[0] : right.split(":", -1);
        List<String> eight = new ArrayList<>(Arrays.asList(before));
        if (before.length + behind.length > 7) {
            return null;
        }
        for (int i = before.length + behind.length; i < 8; i++) {
            eight.add("0");
        }
        eight.addAll(Arrays.asList(behind));
        return numbers(eight.toArray(new String[0]), 8);
    }

    private static int[] numbers(String[] texts, int count) {
        if (texts.length != count) {
            return null;
        }
        int[] numbers = new int[count];
        for (int i = 0; i < count; i++) {
            if (!GROUP.matcher(texts[i]).matches()) {
                return null;
            }
            numbers[i] = Integer.parseInt(texts[i], 16);
        }
        return numbers;
    }

    private static int bitsOfFour(String text) {
        int bits = 0;
        for (String number : text.split("\\.")) {
            bits = bits * 256 + Integer.parseInt(number);
        }
        return bits;
    }

    int host(int link) {
        return kind(ref(link).host);
    }

    int address(int link, int i) {
        String host = ref(link).host;
        int kind = kind(host);
        if (kind != 2 && kind != 3) {
            throw new IllegalStateException();
        }
        if (i < 0 || i >= (kind == 2 ? 1 : 4)) {
            throw new IllegalArgumentException();
        }
        if (kind == 2) {
            return bitsOfFour(host);
        }
        int[] groups = groups(host.substring(1, host.length() - 1));
        return groups[2 * i] * 65536 + groups[2 * i + 1];
    }

    private static int portOf(Ref ref) {
        return ref.port == null || ref.port.isEmpty() ? -1 : Integer.parseInt(ref.port);
    }

    int port(int link) {
        return portOf(ref(link));
    }

    private static String withoutDots(String path) {
        boolean slash = path.startsWith("/");
        String[] all = (slash ? path.substring(1) : path).split("/", -1);
        List<String> left = new ArrayList<>();
        for (String segment : all) {
            if (segment.equals("..")) {
                if (!left.isEmpty()) {
                    left.remove(left.size() - 1);
                }
            } else if (!segment.equals(".")) {
                left.add(segment);
            }
        }
        boolean lastWent = all[all.length - 1].equals(".") || all[all.length - 1].equals("..");
        return (slash ? "/" : "") + String.join("/", left) + (lastWent && !left.isEmpty() ? "/" : "");
    }

    private static Ref resolved(Ref base, Ref r, boolean strict) {
        if (r.scheme != null && (strict || !r.scheme.equals(base.scheme))) {
            return r.withPath(withoutDots(r.path)).guarded();
        }
        if (r.host != null) {
            return new Ref(base.scheme, r.user, r.host, r.port, withoutDots(r.path), r.query, r.fragment).guarded();
        }
        String path = base.path;
        String query = r.query == null ? base.query : r.query;
        if (!r.path.isEmpty()) {
            String up = base.path.substring(0, base.path.lastIndexOf('/') + 1);
            up = up.isEmpty() && base.host != null ? "/" : up;
            path = withoutDots(r.path.startsWith("/") ? r.path : up + r.path);
            query = r.query;
        }
        return new Ref(base.scheme, base.user, base.host, base.port, path, query, r.fragment).guarded();
    }

    int resolve(int link, int base, int reference, boolean strict) {
        need(link);
        Ref from = ref(base);
        Ref step = ref(reference);
        if (from.scheme == null) {
            throw new IllegalStateException();
        }
        return keep(link, resolved(from, step, strict));
    }

    private static String small(String text) {
        return text == null ? null : text.toLowerCase(Locale.ROOT);
    }

    private static String greatCodes(String text) {
        return text == null ? null : CODE.matcher(text).replaceAll(m -> m.group().toUpperCase(Locale.ROOT));
    }

    private static String freed(String text) {
        return text == null ? null : CODE.matcher(text).replaceAll(m -> {
            String sign = String.valueOf((char) Integer.parseInt(m.group(1), 16));
            return sign.matches("[" + FREE + "]") ? sign : m.group();
        });
    }

    private static String decoded(String text) {
        return text == null ? null : CODE.matcher(text).replaceAll(
            m -> Matcher.quoteReplacement(String.valueOf((char) Integer.parseInt(m.group(1), 16))));
    }

    private static int ownPort(String scheme) {
        List<String> known = List.of("http", "ws", "https", "wss", "ftp");
        int[] ports = {80, 80, 443, 443, 21};
        return known.contains(scheme == null ? "" : scheme) ? ports[known.indexOf(scheme)] : -1;
    }

    private static Ref normal(Ref r, int how) {
        if (how % 2 == 1) {
            r = new Ref(small(r.scheme), greatCodes(r.user), greatCodes(small(r.host)), r.port, greatCodes(r.path),
                greatCodes(r.query), greatCodes(r.fragment));
        }
        if (how / 2 % 2 == 1) {
            r = new Ref(r.scheme, freed(r.user), freed(r.host), r.port, freed(r.path), freed(r.query),
                freed(r.fragment));
        }
        if (how / 4 % 2 == 1 && (r.scheme != null || r.path.startsWith("/"))) {
            r = r.withPath(withoutDots(r.path)).guarded();
        }
        if (how / 8 % 2 == 1) {
            int own = ownPort(r.scheme);
            boolean gone = r.port == null || r.port.isEmpty() || portOf(r) == own;
            String path = own > 0 && r.host != null && r.path.isEmpty() ? "/" : r.path;
            r = new Ref(r.scheme, r.user, r.host, gone ? null : r.port, path, r.query, r.fragment);
        }
        if (how / 16 % 2 == 1 && kind(r.host) == 3) {
            String host = shortSix(groups(r.host.substring(1, r.host.length() - 1)));
            r = new Ref(r.scheme, r.user, host, r.port, r.path, r.query, r.fragment);
        }
        return r;
    }

    /** The longest rows of 0 are looked for first, each from the left. */
    private static String shortSix(int[] groups) {
        List<String> texts = new ArrayList<>();
        for (int group : groups) {
            texts.add(Integer.toHexString(group));
        }
        for (int length = 8; length >= 2; length--) {
            for (int start = 0; start + length <= 8; start++) {
                if (texts.subList(start, start + length).stream().allMatch("0"::equals)) {
                    return "[" + String.join(":", texts.subList(0, start)) + "::"
                        + String.join(":", texts.subList(start + length, 8)) + "]";
                }
            }
        }
        return "[" + String.join(":", texts) + "]";
    }

    int normalise(int link, int from, int how) {
        need(link);
        Ref source = ref(from);
        if (how < 0 || how > 31) {
            throw new IllegalArgumentException();
        }
        return keep(link, normal(source, how));
    }

    boolean same(int link, int other, int how) {
        Ref one = ref(link);
        Ref two = ref(other);
        if (how < 0 || how > 31) {
            throw new IllegalArgumentException();
        }
        return normal(one, how).text().equals(normal(two, how).text());
    }

    private static String climb(String base, String target) {
        int shared = 0;
        for (int i = 1; i <= base.length(); i++) {
            String beginning = base.substring(0, i);
            if (beginning.endsWith("/") && target.startsWith(beginning)) {
                shared = i;
            }
        }
        String ups = "../".repeat(base.substring(shared).replaceAll("[^/]", "").length());
        String rest = target.substring(shared);
        boolean point = rest.isEmpty() || rest.startsWith("/") || rest.split("/", -1)[0].contains(":");
        return (ups.isEmpty() && point ? "./" : ups) + rest;
    }

    int relate(int link, int base, int target) {
        need(link);
        Ref b = ref(base);
        Ref t = ref(target);
        if (b.scheme == null || t.scheme == null) {
            throw new IllegalStateException();
        }
        Ref[] ways = {
            new Ref(null, null, null, null, "", null, t.fragment),
            new Ref(null, null, null, null, "", t.query, t.fragment),
            new Ref(null, null, null, null, climb(b.path, t.path), t.query, t.fragment),
            new Ref(null, null, null, null, t.path, t.query, t.fragment),
            new Ref(null, t.user, t.host, t.port, t.path, t.query, t.fragment),
            t};
        Ref best = null;
        for (Ref way : ways) {
            boolean leads = Objects.equals(Ref.of(way.text()), way) && resolved(b, way, true).equals(t);
            if (leads && (best == null || way.text().length() < best.text().length())) {
                best = way;
            }
        }
        if (best == null) {
            throw new UnsupportedOperationException();
        }
        return keep(link, best);
    }

    private static String[] segmentsOf(String path) {
        String body = path.startsWith("/") ? path.substring(1) : path;
        return path.isEmpty() ? new String[0] : body.split("/", -1);
    }

    int segments(int link) {
        return segmentsOf(ref(link).path).length;
    }

    int segment(int link, int i) {
        String[] all = segmentsOf(ref(link).path);
        if (i < 0 || i >= all.length) {
            throw new IllegalArgumentException();
        }
        return show(decoded(all[i]));
    }

    int descend(int link) {
        String name = take();
        Ref r = ref(link);
        StringBuilder coded = new StringBuilder();
        for (char c : name.toCharArray()) {
            String sign = String.valueOf(c);
            coded.append(sign.matches("[" + FREE + "]") ? sign : String.format("%%%02X", (int) c));
        }
        boolean bare = r.path.isEmpty() ? r.host == null : r.path.endsWith("/");
        return keep(link, r.withPath(r.path + (bare ? "" : "/") + coded));
    }

    int ascend(int link) {
        Ref r = ref(link);
        String path = r.path;
        if (path.matches("(?s).*[^/]")) {
            path = path.replaceFirst("(?s)[^/]+$", "");
        } else {
            path = path.replaceFirst("(?s)[^/]*/$", "");
        }
        return keep(link, r.withPath(r.path.startsWith("/") && path.isEmpty() ? "/" : path));
    }

    private static String[] pairsOf(String query) {
        return query == null ? new String[0] : query.split("&", -1);
    }

    int pairs(int link) {
        return pairsOf(ref(link).query).length;
    }

    int pair(int link, int i, boolean value) {
        String[] all = pairsOf(ref(link).query);
        if (i < 0 || i >= all.length) {
            throw new IllegalArgumentException();
        }
        String[] halves = all[i].split("=", 2);
        return show(value ? halves.length == 2 ? decoded(halves[1]) : null : decoded(halves[0]));
    }

    long word(int i) {
        long bytes = 0;
        for (int k = 0; k < 8; k++) {
            long at = 8L * i + k;
            long sign = at >= 0 && at < out.length() ? out.charAt((int) at) : 0;
            bytes |= sign << 8 * k;
        }
        return bytes;
    }
}
