/** References to resources by RFC 3986, eight of them in one object; README.md tells how to use it. */
public final class LinkLibrary {
    private static final int LINKS = 8;
    private static final int MOST = 400;
    /** A path that is being made may be two whole paths one behind the other, before its dots go. */
    private static final int WIDE = 2 * MOST + 8;

    private static final int SCHEME = 0;
    private static final int USER = 1;
    private static final int HOST = 2;
    private static final int PORT = 3;
    private static final int PATH = 4;
    private static final int QUERY = 5;
    private static final int FRAGMENT = 6;
    private static final int PARTS = 7;

    private static final int NO_HOST = 0;
    private static final int NAME = 1;
    private static final int FOUR = 2;
    private static final int SIX = 3;
    private static final int FUTURE = 4;

    private static final int WAYS = 6;
    private static final int EVERY_BIT = 31;
    private static final int NONE = -1;

    private final Row tape = new Row(MOST);
    private final Row taken = new Row(MOST);
    private final Row out = new Row(MOST);
    private final Parts[] links = new Parts[LINKS];
    private final Reading reading = new Reading();
    private final Row line = new Row(MOST);
    private final Addresses addresses = new Addresses();
    private final Parts draft = new Parts(WIDE);
    private final Parts candidate = new Parts(WIDE);
    private final Parts again = new Parts(WIDE);
    private int lastFault;
    private int lastPlace;

    public LinkLibrary() {
        for (int i = 0; i < links.length; i++) {
            links[i] = new Parts(MOST);
        }
    }

    public int feed(long bytes, int n) throws IllegalArgumentException, IllegalStateException {
        if (n < 1 || n > 8) {
            throw new IllegalArgumentException();
        }
        if (tape.size + n > MOST) {
            throw new IllegalStateException();
        }
        for (int i = 0; i < n; i++) {
            tape.add((int) (bytes >>> (8 * i)) & 255);
        }
        return tape.size;
    }

    public int read(int link) throws IndexOutOfBoundsException, IllegalArgumentException {
        Row text = takeTape();
        lastFault = 0;
        lastPlace = 0;
        Parts parts = linkAt(link);
        reading.mark(text);
        if (reading.isFaulty(text, addresses)) {
            lastFault = reading.fault;
            lastPlace = reading.place;
            throw new IllegalArgumentException();
        }
        reading.fill(parts, text);
        return parts.length();
    }

    public int fault(boolean place) {
        return place ? lastPlace : lastFault;
    }

    public int write(int link) throws IndexOutOfBoundsException {
        Parts parts = linkAt(link);
        parts.compose(out);
        return out.size;
    }

    public int part(int link, int part) throws IndexOutOfBoundsException, IllegalArgumentException {
        Parts parts = linkAt(link);
        if (part < 0 || part >= PARTS) {
            throw new IllegalArgumentException();
        }
        Row row = parts.row(part);
        out.copy(row);
        return row.there ? row.size : NONE;
    }

    public int host(int link) throws IndexOutOfBoundsException {
        return addresses.kindOf(linkAt(link).host);
    }

    public int address(int link, int i)
            throws IndexOutOfBoundsException, IllegalStateException, IllegalArgumentException {
        int kind = addresses.kindOf(linkAt(link).host);
        if (kind != FOUR && kind != SIX) {
            throw new IllegalStateException();
        }
        if (i < 0 || i > (kind == FOUR ? 0 : 3)) {
            throw new IllegalArgumentException();
        }
        return addresses.bits(i);
    }

    public int port(int link) throws IndexOutOfBoundsException {
        return linkAt(link).portNumber();
    }

    public int resolve(int link, int base, int reference, boolean strict)
            throws IndexOutOfBoundsException, IllegalStateException, UnsupportedOperationException {
        Parts result = linkAt(link);
        Parts from = linkAt(base);
        Parts step = linkAt(reference);
        if (!from.scheme.there) {
            throw new IllegalStateException();
        }
        Resolving.make(draft, from, step, strict);
        if (draft.length() > MOST) {
            throw new UnsupportedOperationException();
        }
        result.copy(draft);
        return result.length();
    }

    public int normalise(int link, int from, int how)
            throws IndexOutOfBoundsException, IllegalArgumentException, UnsupportedOperationException {
        Parts result = linkAt(link);
        Parts source = linkAt(from);
        checkBits(how);
        Normalising.make(draft, source, how, addresses);
        if (draft.length() > MOST) {
            throw new UnsupportedOperationException();
        }
        result.copy(draft);
        return result.length();
    }

    public int relate(int link, int base, int target)
            throws IndexOutOfBoundsException, IllegalStateException, UnsupportedOperationException {
        Parts result = linkAt(link);
        Parts from = linkAt(base);
        Parts goal = linkAt(target);
        if (!from.scheme.there || !goal.scheme.there) {
            throw new IllegalStateException();
        }
        int way = shortestWay(from, goal);
        if (way == NONE) {
            throw new UnsupportedOperationException();
        }
        Relating.make(candidate, way, from, goal);
        result.copy(candidate);
        return result.length();
    }

    public boolean same(int link, int other, int how) throws IndexOutOfBoundsException, IllegalArgumentException {
        Parts one = linkAt(link);
        Parts two = linkAt(other);
        checkBits(how);
        Normalising.make(draft, one, how, addresses);
        Normalising.make(again, two, how, addresses);
        return draft.matches(again);
    }

    public int segments(int link) throws IndexOutOfBoundsException {
        return linkAt(link).segmentCount();
    }

    public int segment(int link, int i) throws IndexOutOfBoundsException, IllegalArgumentException {
        Parts parts = linkAt(link);
        if (i < 0 || i >= parts.segmentCount()) {
            throw new IllegalArgumentException();
        }
        Row path = parts.path;
        int start = path.startOfPiece('/', i, path.at(0) == '/' ? 1 : 0);
        out.clear();
        out.addDecoded(path, start, path.find('/', start, path.size));
        return out.size;
    }

    public int descend(int link) throws IndexOutOfBoundsException, UnsupportedOperationException {
        Row name = takeTape();
        Parts parts = linkAt(link);
        Row path = parts.path;
        boolean slash = path.size == 0 ? parts.host.there : path.at(path.size - 1) != '/';
        int added = name.codedSize() + (slash ? 1 : 0);
        if (parts.length() + added > MOST) {
            throw new UnsupportedOperationException();
        }
        if (slash) {
            path.add('/');
        }
        path.addCoded(name);
        return parts.length();
    }

    public int ascend(int link) throws IndexOutOfBoundsException {
        Parts parts = linkAt(link);
        Row path = parts.path;
        int last = path.findLast('/', 0, path.size);
        int kept = last + 1;
        if (kept == path.size) {
            kept = path.findLast('/', 0, last) + 1;
        }
        if (kept == 0 && path.at(0) == '/') {
            kept = 1;
        }
        path.cut(kept);
        return parts.length();
    }

    public int pairs(int link) throws IndexOutOfBoundsException {
        return linkAt(link).pairCount();
    }

    public int pair(int link, int i, boolean value) throws IndexOutOfBoundsException, IllegalArgumentException {
        Parts parts = linkAt(link);
        if (i < 0 || i >= parts.pairCount()) {
            throw new IllegalArgumentException();
        }
        Row query = parts.query;
        int start = query.startOfPiece('&', i, 0);
        int end = query.find('&', start, query.size);
        int split = query.find('=', start, end);
        out.clear();
        if (!value) {
            out.addDecoded(query, start, split);
            return out.size;
        }
        out.addDecoded(query, split + 1, end);
        return split < end ? out.size : NONE;
    }

    public long word(int i) {
        if (i < 0 || i > MOST / 8) {
            return 0;
        }
        long bytes = 0;
        for (int k = 7; k >= 0; k--) {
            bytes = bytes << 8 | Math.max(out.at(8 * i + k), 0);
        }
        return bytes;
    }

    private Parts linkAt(int link) {
        if (link < 0 || link >= links.length) {
            throw new IndexOutOfBoundsException();
        }
        Parts parts = links[link];
        if (parts == null) {
            throw new IndexOutOfBoundsException();
        }
        return parts;
    }

    private static void checkBits(int how) {
        if (how < 0 || how > EVERY_BIT) {
            throw new IllegalArgumentException();
        }
    }

    /** Empties the tape before anything can be thrown: who reads it uses it up, whatever comes of it. */
    private Row takeTape() {
        taken.copy(tape);
        tape.clear();
        return taken;
    }

    /** All of the target is no longer than a link, so a longer way can't be the shortest one. */
    private int shortestWay(Parts base, Parts target) {
        int best = NONE;
        int shortest = MOST + 1;
        for (int way = 0; way < WAYS; way++) {
            Relating.make(candidate, way, base, target);
            int length = candidate.length();
            if (length < shortest && readsBack()) {
                Resolving.make(draft, base, candidate, true);
                if (draft.matches(target)) {
                    best = way;
                    shortest = length;
                }
            }
        }
        return best;
    }

    private boolean readsBack() {
        candidate.compose(line);
        reading.mark(line);
        reading.fill(again, line);
        return again.matches(candidate);
    }

    /** What kinds of bytes there are; NONE is of no kind. */
    private static final class Signs {
        private static boolean isLetter(int sign) {
            return sign >= 'a' && sign <= 'z' || sign >= 'A' && sign <= 'Z';
        }

        private static boolean isDigit(int sign) {
            return sign >= '0' && sign <= '9';
        }

        private static boolean isFree(int sign) {
            return isLetter(sign) || isDigit(sign) || sign == '-' || sign == '.' || sign == '_' || sign == '~';
        }

        private static boolean isSub(int sign) {
            switch (sign) {
                case '!':
                case '$':
                case '&':
                case '\'':
                case '(':
                case ')':
                case '*':
                case '+':
                case ',':
                case ';':
                case '=':
                    return true;
                default:
                    return false;
            }
        }

        /** What a digit of base 16 tells, or NONE. */
        private static int digitOf(int sign) {
            if (sign >= '0' && sign <= '9') {
                return sign - '0';
            }
            if (sign >= 'a' && sign <= 'f') {
                return sign - 'a' + 10;
            }
            return sign >= 'A' && sign <= 'F' ? sign - 'A' + 10 : NONE;
        }

        private static int small(int sign) {
            return sign >= 'A' && sign <= 'Z' ? sign - 'A' + 'a' : sign;
        }

        private static int great(int sign) {
            return sign >= 'a' && sign <= 'z' ? sign - 'a' + 'A' : sign;
        }

        private static int digit(int value, boolean greatLetters) {
            if (value < 10) {
                return '0' + value;
            }
            return (greatLetters ? 'A' : 'a') + value - 10;
        }

        /** Whether a byte may stand in a part; % may, as those that are no codes were told before. */
        private static boolean mayStand(int sign, int part) {
            if (part == PORT) {
                return isDigit(sign);
            }
            if (isFree(sign) || isSub(sign) || sign == '%') {
                return true;
            }
            switch (part) {
                case USER:
                    return sign == ':';
                case PATH:
                    return sign == ':' || sign == '@' || sign == '/';
                case QUERY:
                case FRAGMENT:
                    return sign == ':' || sign == '@' || sign == '/' || sign == '?';
                default:
                    return false;
            }
        }
    }

    /** A row of bytes in a room that never grows; as a part of a reference it may be there or not. */
    private static final class Row {
        private final byte[] bytes;
        private int size;
        private boolean there;

        private Row(int room) {
            bytes = new byte[Math.max(room, 0)];
        }

        private int at(int i) {
            if (i < 0 || i >= size || i >= bytes.length) {
                return NONE;
            }
            return bytes[i] & 255;
        }

        private void set(int i, int sign) {
            if (i >= 0 && i < size && i < bytes.length) {
                bytes[i] = (byte) sign;
            }
        }

        private void add(int sign) {
            if (size >= 0 && size < bytes.length) {
                bytes[size] = (byte) sign;
                size++;
            }
        }

        private void addText(String text) {
            for (int i = 0; i < text.length(); i++) {
                add(text.charAt(i));
            }
        }

        private void addRange(Row from, int start, int end) {
            int room = bytes.length - size;
            int wanted = (end < from.size ? end : from.size) - start;
            int count = wanted < room ? wanted : room;
            if (start >= 0 && count > 0 && start <= from.bytes.length - count && size >= 0) {
                System.arraycopy(from.bytes, start, bytes, size, count);
                size += count;
            }
        }

        private void clear() {
            size = 0;
            there = false;
        }

        private void cut(int length) {
            if (length >= 0 && length < size) {
                size = length;
            }
        }

        private void copy(Row from) {
            clear();
            addRange(from, 0, from.size);
            there = from.there;
        }

        private void become(String text) {
            clear();
            addText(text);
            there = true;
        }

        private boolean matches(Row other) {
            if (there != other.there || size != other.size) {
                return false;
            }
            for (int i = 0; i < size; i++) {
                if (at(i) != other.at(i)) {
                    return false;
                }
            }
            return true;
        }

        private boolean isText(String text) {
            if (size != text.length()) {
                return false;
            }
            for (int i = 0; i < text.length(); i++) {
                if (at(i) != text.charAt(i)) {
                    return false;
                }
            }
            return true;
        }

        /** Where the first one is, or the end of the range when there is none. */
        private int find(int sign, int from, int to) {
            for (int i = from; i < to; i++) {
                if (at(i) == sign) {
                    return i;
                }
            }
            return to;
        }

        private int findLast(int sign, int from, int to) {
            for (int i = to - 1; i >= from; i--) {
                if (at(i) == sign) {
                    return i;
                }
            }
            return NONE;
        }

        private int count(int sign, int from) {
            int found = 0;
            for (int i = from; i < size; i++) {
                if (at(i) == sign) {
                    found++;
                }
            }
            return found;
        }

        /** Where the piece begins that has so many separators before it, none of them ahead of from. */
        private int startOfPiece(int separator, int pieces, int from) {
            int start = from;
            for (int i = 0; i < pieces; i++) {
                start = find(separator, start, size) + 1;
            }
            return start;
        }

        /** The byte that the code at i tells, or NONE where no code is. */
        private int codeAt(int i) {
            if (at(i) != '%') {
                return NONE;
            }
            int high = Signs.digitOf(at(i + 1));
            int low = Signs.digitOf(at(i + 2));
            return high == NONE || low == NONE ? NONE : 16 * high + low;
        }

        private void addDecoded(Row from, int start, int end) {
            int i = start;
            while (i < end) {
                int code = from.codeAt(i);
                add(code == NONE ? from.at(i) : code);
                i += code == NONE ? 1 : 3;
            }
        }

        private int codedSize() {
            int coded = 0;
            for (int i = 0; i < size; i++) {
                coded += Signs.isFree(at(i)) ? 1 : 3;
            }
            return coded;
        }

        private void addCoded(Row from) {
            for (int i = 0; i < from.size; i++) {
                int sign = from.at(i);
                if (Signs.isFree(sign)) {
                    add(sign);
                } else {
                    add('%');
                    add(Signs.digit(sign >> 4 & 15, true));
                    add(Signs.digit(sign & 15, true));
                }
            }
        }

        private void makeSmall() {
            for (int i = 0; i < size; i++) {
                set(i, Signs.small(at(i)));
            }
        }

        private void makeCodesGreat() {
            for (int i = 0; i < size; i++) {
                if (at(i) == '%') {
                    set(i + 1, Signs.great(at(i + 1)));
                    set(i + 2, Signs.great(at(i + 2)));
                }
            }
        }

        private void freeCodes() {
            int written = 0;
            int i = 0;
            while (i < size) {
                int code = codeAt(i);
                boolean free = Signs.isFree(code);
                set(written, free ? code : at(i));
                written++;
                i += free ? 3 : 1;
            }
            cut(written);
        }

        private int number(int from, int to) {
            int value = 0;
            for (int i = from; i < to; i++) {
                value = 10 * value + Math.max(Signs.digitOf(at(i)), 0);
            }
            return value;
        }

        /** Every segment that stays keeps the / behind it, so a path whose last one went ends in /. */
        private void removeDots() {
            int floor = at(0) == '/' ? 1 : 0;
            int segments = count('/', floor) + 1;
            int kept = floor;
            int start = floor;
            for (int i = 0; i < segments; i++) {
                int end = find('/', start, size);
                if (isDots(start, end, 2)) {
                    kept = Math.max(findLast('/', floor, kept - 1) + 1, floor);
                } else if (!isDots(start, end, 1)) {
                    kept = moveDown(start, Math.min(end + 1, size), kept);
                }
                start = end + 1;
            }
            cut(kept);
        }

        private boolean isDots(int start, int end, int points) {
            return end - start == points && at(start) == '.' && at(end - 1) == '.';
        }

        private int moveDown(int start, int end, int to) {
            int written = to;
            for (int i = start; i < end; i++) {
                set(written, at(i));
                written++;
            }
            return written;
        }

        private void putBefore(String text) {
            int old = size;
            int shift = text.length();
            addText(text);
            for (int i = old - 1; i >= 0; i--) {
                set(i + shift, at(i));
            }
            for (int i = 0; i < shift; i++) {
                set(i, text.charAt(i));
            }
        }
    }

    /** A reference in its parts; the path is always there, and a host just where an authority is. */
    private static final class Parts {
        private final Row scheme = new Row(MOST);
        private final Row user = new Row(MOST);
        private final Row host = new Row(MOST);
        private final Row port = new Row(MOST);
        private final Row path;
        private final Row query = new Row(MOST);
        private final Row fragment = new Row(MOST);

        private Parts(int pathRoom) {
            path = new Row(pathRoom);
            path.there = true;
        }

        private Row row(int part) {
            switch (part) {
                case SCHEME:
                    return scheme;
                case USER:
                    return user;
                case HOST:
                    return host;
                case PORT:
                    return port;
                case PATH:
                    return path;
                case QUERY:
                    return query;
                default:
                    return fragment;
            }
        }

        private void clear() {
            for (int part = 0; part < PARTS; part++) {
                row(part).clear();
            }
            path.there = true;
        }

        private void copy(Parts from) {
            for (int part = 0; part < PARTS; part++) {
                row(part).copy(from.row(part));
            }
        }

        private void copyAuthority(Parts from) {
            user.copy(from.user);
            host.copy(from.host);
            port.copy(from.port);
        }

        private boolean matches(Parts other) {
            for (int part = 0; part < PARTS; part++) {
                if (!row(part).matches(other.row(part))) {
                    return false;
                }
            }
            return true;
        }

        private int length() {
            int length = host.there ? 2 : 0;
            for (int part = 0; part < PARTS; part++) {
                Row row = row(part);
                boolean marked = part != HOST && part != PATH && row.there;
                length += row.size + (marked ? 1 : 0);
            }
            return length;
        }

        private void compose(Row text) {
            text.clear();
            addWithMark(text, scheme, NONE, ':');
            if (host.there) {
                text.addText("//");
            }
            addWithMark(text, user, NONE, '@');
            addWithMark(text, host, NONE, NONE);
            addWithMark(text, port, ':', NONE);
            addWithMark(text, path, NONE, NONE);
            addWithMark(text, query, '?', NONE);
            addWithMark(text, fragment, '#', NONE);
        }

        private static void addWithMark(Row text, Row row, int before, int behind) {
            if (!row.there) {
                return;
            }
            if (before != NONE) {
                text.add(before);
            }
            text.addRange(row, 0, row.size);
            if (behind != NONE) {
                text.add(behind);
            }
        }

        /** A path that begins with // would be read as an authority, where there is none. */
        private void guardPath() {
            if (!host.there && path.at(0) == '/' && path.at(1) == '/') {
                path.putBefore("/.");
            }
        }

        private int portNumber() {
            return port.there && port.size > 0 ? port.number(0, port.size) : NONE;
        }

        private int segmentCount() {
            return path.size == 0 ? 0 : path.count('/', 1) + 1;
        }

        private int pairCount() {
            return query.there ? query.count('&', 0) + 1 : 0;
        }
    }

    /** Where the parts of a text stand, and what is wrong with them. */
    private static final class Reading {
        private final int[] starts = new int[PARTS];
        private final int[] ends = new int[PARTS];
        private int fault;
        private int place;

        private void mark(Row text) {
            for (int part = 0; part < PARTS; part++) {
                setRange(part, NONE, NONE);
            }
            int end = text.find('#', 0, text.size);
            if (end < text.size) {
                setRange(FRAGMENT, end + 1, text.size);
            }
            int pathEnd = text.find('?', 0, end);
            if (pathEnd < end) {
                setRange(QUERY, pathEnd + 1, end);
            }
            int slash = text.find('/', 0, pathEnd);
            int colon = text.find(':', 0, slash);
            int pathStart = 0;
            if (colon < slash) {
                setRange(SCHEME, 0, colon);
                pathStart = colon + 1;
            }
            if (pathStart + 2 <= pathEnd && text.at(pathStart) == '/' && text.at(pathStart + 1) == '/') {
                int start = pathStart + 2;
                pathStart = text.find('/', start, pathEnd);
                markAuthority(text, start, pathStart);
            }
            setRange(PATH, pathStart, pathEnd);
        }

        private void markAuthority(Row text, int start, int end) {
            int at = text.findLast('@', start, end);
            if (at != NONE) {
                setRange(USER, start, at);
            }
            int hostStart = at == NONE ? start : at + 1;
            int colon = lastOpenColon(text, hostStart, end);
            if (colon != NONE) {
                setRange(PORT, colon + 1, end);
            }
            setRange(HOST, hostStart, colon == NONE ? end : colon);
        }

        /** All that is behind a [ without a ] counts as being in it. */
        private static int lastOpenColon(Row text, int start, int end) {
            int colon = NONE;
            boolean inside = false;
            for (int i = start; i < end; i++) {
                int sign = text.at(i);
                if (sign == '[') {
                    inside = true;
                } else if (sign == ']') {
                    inside = false;
                } else if (sign == ':' && !inside) {
                    colon = i;
                }
            }
            return colon;
        }

        private void setRange(int part, int start, int end) {
            if (part >= 0 && part < starts.length && part < ends.length) {
                starts[part] = start;
                ends[part] = end;
            }
        }

        private int startOf(int part) {
            return part >= 0 && part < starts.length ? starts[part] : NONE;
        }

        private int endOf(int part) {
            return part >= 0 && part < ends.length ? ends[part] : NONE;
        }

        private void fill(Parts parts, Row text) {
            for (int part = 0; part < PARTS; part++) {
                Row row = parts.row(part);
                int start = startOf(part);
                row.clear();
                row.there = start != NONE;
                row.addRange(text, start, endOf(part));
            }
        }

        /** The kinds of faults are looked for one behind the other: a lower kind goes before an earlier place. */
        private boolean isFaulty(Row text, Addresses addresses) {
            return isSchemeWrong(text) || isCodeWrong(text) || isByteWrong(text)
                    || isBracketWrong(text, addresses) || isPortWrong(text);
        }

        private boolean tell(int kind, int where) {
            fault = kind;
            place = where;
            return true;
        }

        private boolean isSchemeWrong(Row text) {
            int colon = endOf(SCHEME);
            for (int i = 0; i < colon; i++) {
                int sign = text.at(i);
                boolean later = Signs.isDigit(sign) || sign == '+' || sign == '-' || sign == '.';
                if (!Signs.isLetter(sign) && (i == 0 || !later)) {
                    return tell(1, i);
                }
            }
            return colon == 0 && tell(1, 0);
        }

        private boolean isCodeWrong(Row text) {
            for (int i = 0; i < text.size; i++) {
                if (text.at(i) == '%' && text.codeAt(i) == NONE) {
                    return tell(2, i);
                }
            }
            return false;
        }

        private boolean isByteWrong(Row text) {
            for (int part = USER; part < PARTS; part++) {
                int end = endOf(part);
                if (part == HOST) {
                    end = text.find('[', startOf(part), end);
                }
                for (int i = startOf(part); i < end; i++) {
                    if (!Signs.mayStand(text.at(i), part)) {
                        return tell(3, i);
                    }
                }
            }
            return false;
        }

        private boolean isBracketWrong(Row text, Addresses addresses) {
            int start = startOf(HOST);
            int end = endOf(HOST);
            int open = text.find('[', start, end);
            if (open == end) {
                return false;
            }
            int close = text.find(']', open, end);
            boolean alone = open == start && close == end - 1;
            boolean known = addresses.takeSix(text, open + 1, close) || Addresses.isFuture(text, open + 1, close);
            return (!alone || !known) && tell(4, open);
        }

        private boolean isPortWrong(Row text) {
            int start = startOf(PORT);
            int end = endOf(PORT);
            boolean wrong = end - start > 5 || text.number(start, end) > 65535;
            return wrong && tell(5, start);
        }
    }

    /** Hosts that are addresses: told, taken apart and written. The groups are those of the latest one told. */
    private static final class Addresses {
        private final int[] groups = new int[8];

        private int kindOf(Row host) {
            if (!host.there) {
                return NO_HOST;
            }
            if (host.at(0) == '[') {
                return takeSix(host, 1, host.size - 1) ? SIX : FUTURE;
            }
            return takeFour(host, 0, host.size, 0) ? FOUR : NAME;
        }

        private int bits(int i) {
            return group(2 * i) << 16 | group(2 * i + 1);
        }

        private int group(int i) {
            return i >= 0 && i < groups.length ? groups[i] : 0;
        }

        private void setGroup(int i, int value) {
            if (i >= 0 && i < groups.length) {
                groups[i] = value;
            }
        }

        private static boolean isFuture(Row text, int start, int end) {
            if (start >= end || Signs.small(text.at(start)) != 'v') {
                return false;
            }
            int point = text.find('.', start, end);
            for (int i = start + 1; i < point; i++) {
                if (Signs.digitOf(text.at(i)) == NONE) {
                    return false;
                }
            }
            for (int i = point + 1; i < end; i++) {
                int sign = text.at(i);
                if (!Signs.isFree(sign) && !Signs.isSub(sign) && sign != ':') {
                    return false;
                }
            }
            return point > start + 1 && point < end - 1;
        }

        /** Four numbers fill two groups, from the one told on. */
        private boolean takeFour(Row text, int start, int end, int group) {
            int bits = 0;
            int i = start;
            for (int k = 0; k < 4; k++) {
                int stop = k < 3 ? text.find('.', i, end) : end;
                int number = numberUpTo255(text, i, stop);
                if (number == NONE) {
                    return false;
                }
                bits = bits << 8 | number;
                i = stop + 1;
            }
            setGroup(group, bits >>> 16);
            setGroup(group + 1, bits & 65535);
            return group + 2 <= groups.length;
        }

        private static int numberUpTo255(Row text, int start, int end) {
            int digits = end - start;
            if (digits < 1 || digits > 3 || digits > 1 && text.at(start) == '0') {
                return NONE;
            }
            int number = 0;
            for (int i = start; i < end; i++) {
                int sign = text.at(i);
                if (!Signs.isDigit(sign)) {
                    return NONE;
                }
                number = 10 * number + sign - '0';
            }
            return number <= 255 ? number : NONE;
        }

        /** Each round takes one group at least, so there are no more rounds than groups. */
        private boolean takeSix(Row text, int start, int end) {
            int count = 0;
            int gap = isGap(text, start, end) ? 0 : NONE;
            int i = gap == 0 ? start + 2 : start;
            while (i < end && count < groups.length) {
                int stop = text.find(':', i, end);
                boolean four = stop == end && text.find('.', i, end) < end;
                boolean taken = four ? takeFour(text, i, end, count) : takeGroup(text, i, stop, count);
                boolean second = gap != NONE && isGap(text, stop, end);
                if (!taken || second || stop == end - 1) {
                    return false;
                }
                count += four ? 2 : 1;
                i = stop + 1;
                if (isGap(text, stop, end)) {
                    gap = count;
                    i++;
                }
            }
            return i >= end && (gap == NONE ? count == groups.length : spread(count, gap));
        }

        private static boolean isGap(Row text, int i, int end) {
            return i + 2 <= end && text.at(i) == ':' && text.at(i + 1) == ':';
        }

        private boolean takeGroup(Row text, int start, int end, int group) {
            if (end - start < 1 || end - start > 4) {
                return false;
            }
            int value = 0;
            for (int i = start; i < end; i++) {
                int digit = Signs.digitOf(text.at(i));
                if (digit == NONE) {
                    return false;
                }
                value = 16 * value + digit;
            }
            setGroup(group, value);
            return group < groups.length;
        }

        /** The groups behind the gap go to the end, and the gap is filled with groups of 0. */
        private boolean spread(int count, int gap) {
            int missing = groups.length - count;
            if (missing < 1) {
                return false;
            }
            for (int i = count - 1; i >= gap; i--) {
                setGroup(i + missing, group(i));
            }
            for (int i = gap; i < gap + missing; i++) {
                setGroup(i, 0);
            }
            return true;
        }

        private void rewriteSix(Row host) {
            if (host.at(0) != '[' || !takeSix(host, 1, host.size - 1)) {
                return;
            }
            int gap = longestRow();
            int behind = gap + rowAt(gap);
            host.become("[");
            for (int i = 0; i < groups.length; i++) {
                if (i == gap) {
                    host.addText("::");
                } else if (i < gap || i >= behind) {
                    if (i > 0 && i != behind) {
                        host.add(':');
                    }
                    addGroup(host, group(i));
                }
            }
            host.add(']');
        }

        private static void addGroup(Row host, int value) {
            boolean begun = false;
            for (int shift = 12; shift >= 0; shift -= 4) {
                int digit = value >> shift & 15;
                begun = begun || digit > 0 || shift == 0;
                if (begun) {
                    host.add(Signs.digit(digit, false));
                }
            }
        }

        /** Where the longest row of groups of 0 begins; behind all groups, if none has two. */
        private int longestRow() {
            int best = groups.length;
            int longest = 1;
            for (int i = 0; i < groups.length; i++) {
                int length = rowAt(i);
                if (length > longest) {
                    best = i;
                    longest = length;
                }
            }
            return best;
        }

        private int rowAt(int start) {
            int length = 0;
            for (int i = start; i < groups.length && group(i) == 0; i++) {
                length++;
            }
            return length;
        }
    }

    /** What a reference is against a base. */
    private static final class Resolving {
        private static void make(Parts result, Parts base, Parts reference, boolean strict) {
            Row scheme = reference.scheme;
            if (scheme.there && (strict || !scheme.matches(base.scheme))) {
                result.copy(reference);
                result.path.removeDots();
            } else {
                result.scheme.copy(base.scheme);
                makeBehindScheme(result, base, reference);
                result.fragment.copy(reference.fragment);
            }
            result.guardPath();
        }

        private static void makeBehindScheme(Parts result, Parts base, Parts reference) {
            boolean ownAuthority = reference.host.there;
            result.copyAuthority(ownAuthority ? reference : base);
            if (!ownAuthority && reference.path.size == 0) {
                result.path.copy(base.path);
                result.query.copy(reference.query.there ? reference.query : base.query);
                return;
            }
            result.query.copy(reference.query);
            if (ownAuthority || reference.path.at(0) == '/') {
                result.path.copy(reference.path);
            } else {
                merge(result.path, base, reference.path);
            }
            result.path.removeDots();
        }

        private static void merge(Row path, Parts base, Row step) {
            int kept = base.path.findLast('/', 0, base.path.size) + 1;
            path.clear();
            path.there = true;
            path.addRange(base.path, 0, kept);
            if (kept == 0 && base.host.there) {
                path.add('/');
            }
            path.addRange(step, 0, step.size);
        }
    }

    /** A reference in its normal form, by the bits of how. */
    private static final class Normalising {
        private static void make(Parts result, Parts from, int how, Addresses addresses) {
            result.copy(from);
            if ((how & 1) != 0) {
                setLetters(result);
            }
            if ((how & 2) != 0) {
                freeCodes(result);
            }
            if ((how & 4) != 0 && (result.scheme.there || result.path.at(0) == '/')) {
                result.path.removeDots();
                result.guardPath();
            }
            if ((how & 8) != 0) {
                dropPort(result);
            }
            if ((how & 16) != 0) {
                addresses.rewriteSix(result.host);
            }
        }

        private static void setLetters(Parts result) {
            result.scheme.makeSmall();
            result.host.makeSmall();
            for (int part = USER; part < PARTS; part++) {
                result.row(part).makeCodesGreat();
            }
        }

        private static void freeCodes(Parts result) {
            for (int part = USER; part < PARTS; part++) {
                result.row(part).freeCodes();
            }
        }

        private static void dropPort(Parts result) {
            int own = ownPort(result.scheme);
            boolean needless = result.port.size == 0 || own != NONE && result.portNumber() == own;
            if (needless) {
                result.port.clear();
            }
            if (own != NONE && result.host.there && result.path.size == 0) {
                result.path.add('/');
            }
        }

        private static int ownPort(Row scheme) {
            if (scheme.isText("http") || scheme.isText("ws")) {
                return 80;
            }
            if (scheme.isText("https") || scheme.isText("wss")) {
                return 443;
            }
            return scheme.isText("ftp") ? 21 : NONE;
        }
    }

    /** The references that may lead from a base to a target, each with one thing more than the one before it. */
    private static final class Relating {
        private static void make(Parts result, int way, Parts base, Parts target) {
            result.clear();
            result.fragment.copy(target.fragment);
            if (way >= 1) {
                result.query.copy(target.query);
            }
            if (way == 2) {
                climb(result.path, base.path, target.path);
            }
            if (way >= 3) {
                result.path.copy(target.path);
            }
            if (way >= 4) {
                result.copyAuthority(target);
            }
            if (way >= 5) {
                result.scheme.copy(target.scheme);
            }
        }

        /** What the room of the path can't hold is too long for a link already with what it holds. */
        private static void climb(Row path, Row base, Row target) {
            int shared = sharedBeginning(base, target);
            int ups = base.count('/', shared);
            for (int i = 0; i < ups; i++) {
                path.addText("../");
            }
            if (ups == 0 && needsPoint(target, shared)) {
                path.addText("./");
            }
            path.addRange(target, shared, target.size);
        }

        private static int sharedBeginning(Row base, Row target) {
            int shared = 0;
            int most = Math.min(base.size, target.size);
            for (int i = 0; i < most && base.at(i) == target.at(i); i++) {
                if (base.at(i) == '/') {
                    shared = i + 1;
                }
            }
            return shared;
        }

        private static boolean needsPoint(Row target, int start) {
            int end = target.find('/', start, target.size);
            return end == start || target.find(':', start, end) < end;
        }
    }
}
