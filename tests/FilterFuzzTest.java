import java.util.ArrayList;
import java.util.LinkedHashSet;
import java.util.List;
import java.util.Set;

/**
 * Filters made by chance (always the same ones), each with what it says worked out here straight
 * from its tree: matches(), run() and emulate() must agree with that (promises 6, 9, 11, 12, 15, 19).
 */
public final class FilterFuzzTest {
    private static int wrong = 0;
    private static long seed = 12345;

    private static final class NoMatch extends RuntimeException {
        private static final long serialVersionUID = 1L;

        NoMatch() {
            super(null, null, false, false);
        }
    }

    private interface Says {
        boolean of(int[] packet);
    }

    private interface Value {
        long of(int[] packet);
    }

    private static final String[] KINDS = {"ether", "ip", "ip6", "arp", "tcp", "udp", "icmp"};
    private static final StringBuilder text = new StringBuilder();
    // The places where the words of the text begin.
    private static final List<Integer> starts = new ArrayList<>();
    private static Set<String> asked = new LinkedHashSet<>();

    private static int pick(int below) {
        seed = seed * 6364136223846793005L + 1442695040888963407L;
        return (int) ((seed >>> 33) % below);
    }

    private static long read(int[] packet, long place, int size) {
        if (place + size > packet.length) {
            throw new NoMatch();
        }
        long number = 0;
        for (int k = 0; k < size; k++) {
            number = number * 256 + packet[(int) place + k];
        }
        return number;
    }

    private static void word(String w) {
        boolean close = text.length() > 0 && !Character.isLetterOrDigit(text.charAt(text.length() - 1))
            || !Character.isLetterOrDigit(w.charAt(0));
        boolean signs = text.length() > 0 && "<>=!".indexOf(text.charAt(text.length() - 1)) >= 0;
        if (!close || signs || pick(4) == 0) {
            text.append(pick(8) == 0 ? "\n" : " ");
        }
        starts.add(text.length());
        text.append(w);
    }

    private static Says type(long n) {
        return p -> read(p, 12, 2) == n;
    }

    private static Says cell(int place, long n) {
        return p -> read(p, place, 1) == n;
    }

    private static Says and(Says a, Says b) {
        return p -> a.of(p) && b.of(p);
    }

    private static Says or(Says a, Says b) {
        return p -> a.of(p) || b.of(p);
    }

    private static Says whole() {
        return p -> (read(p, 20, 2) & 8191) == 0;
    }

    private static Value port(boolean newer, boolean source) {
        if (newer) {
            return p -> read(p, source ? 54 : 56, 2);
        }
        return p -> read(p, 4 * (read(p, 14, 1) & 15) + (source ? 14 : 16), 2);
    }

    private static Says guard(String kind) {
        switch (kind) {
            case "ip": return type(2048);
            case "ip6": return type(34525);
            case "arp": return type(2054);
            case "tcp": return and(type(2048), and(cell(23, 6), whole()));
            case "udp": return and(type(2048), and(cell(23, 17), whole()));
            default: return and(type(2048), and(cell(23, 1), whole()));
        }
    }

    private static long number() {
        switch (pick(6)) {
            case 0: return pick(4);
            case 1: return pick(70);
            case 2: return 2048;
            case 3: return pick(256);
            case 4: return pick(65536);
            default: return (long) pick(65536) << 16 | pick(65536);
        }
    }

    private static long writeNumber(long n) {
        word(pick(4) == 0 ? "0x" + Long.toHexString(n) : pick(9) == 0 ? "00" + n : "" + n);
        return n;
    }

    private static Says filter(int depth) {
        Says all = row(depth);
        while (pick(3) == 0) {
            word("or");
            all = or(all, row(depth));
        }
        return all;
    }

    private static Says row(int depth) {
        Says all = one(depth);
        while (pick(3) == 0) {
            word("and");
            all = and(all, one(depth));
        }
        return all;
    }

    private static Says one(int depth) {
        int what = pick(depth > 0 ? 6 : 4);
        if (what == 4) {
            word("not");
            Says inner = one(depth - 1);
            return p -> !inner.of(p);
        }
        if (what == 5) {
            word("(");
            Says inner = filter(depth - 1);
            word(")");
            return inner;
        }
        return what < 2 ? primitive() : relation();
    }

    private static Says primitive() {
        switch (pick(10)) {
            case 0: return protocol();
            case 1: return protocol();
            case 2: {
                word("ether");
                word("proto");
                return type(writeNumber(pick(2) == 0 ? 2048 : 34525));
            }
            case 3: {
                word("ip");
                word("proto");
                return and(type(2048), cell(23, writeNumber(pick(20))));
            }
            case 4: return length();
            case 5: case 6: return address();
            default: return ports();
        }
    }

    private static Says length() {
        boolean less = pick(2) == 0;
        word(less ? "less" : "greater");
        long n = writeNumber(pick(90));
        return p -> less ? p.length <= n : p.length >= n;
    }

    private static Says protocol() {
        String kind = KINDS[1 + pick(6)];
        word(kind);
        switch (kind) {
            case "tcp": return or(and(type(2048), cell(23, 6)), and(type(34525), cell(20, 6)));
            case "udp": return or(and(type(2048), cell(23, 17)), and(type(34525), cell(20, 17)));
            case "icmp": return and(type(2048), cell(23, 1));
            default: return guard(kind);
        }
    }

    private static int side() {
        int side = pick(3);
        if (side > 0) {
            word(side == 1 ? "src" : "dst");
        }
        return side;
    }

    private static Says either(int side, Says source, Says target) {
        return side == 0 ? or(source, target) : side == 1 ? source : target;
    }

    private static Says address() {
        int side = side();
        int bits = pick(3) == 0 ? -1 : pick(33);
        long mask = bits <= 0 ? 0 : 0xFFFFFFFFL << (32 - bits) & 0xFFFFFFFFL;
        long a = 0x0a000000L + pick(4) & (bits < 0 ? 0xFFFFFFFFL : mask);
        word(bits < 0 ? "host" : "net");
        word((a >> 24) + "." + (a >> 16 & 255) + "." + (a >> 8 & 255) + "." + (a & 255));
        if (bits >= 0) {
            word("/");
            writeNumber(bits);
        }
        long m = bits < 0 ? 0xFFFFFFFFL : mask;
        return and(type(2048), either(side, p -> (read(p, 26, 4) & m) == a, p -> (read(p, 30, 4) & m) == a));
    }

    private static Says ports() {
        int side = side();
        boolean range = pick(2) == 0;
        word(range ? "portrange" : "port");
        long low = writeNumber(pick(4));
        long high = low;
        if (range) {
            word("-");
            high = writeNumber(low + pick(3));
        }
        long most = high;
        Says[] parts = new Says[4];
        for (int i = 0; i < 4; i++) {
            Value v = port(i > 1, i % 2 == 0);
            // Of a range both ends are read, one behind the other.
            parts[i] = p -> v.of(p) >= low && v.of(p) <= most;
        }
        Says old = and(type(2048), and(or(cell(23, 6), cell(23, 17)), and(whole(), either(side, parts[0], parts[1]))));
        Says newer = and(type(34525), and(or(cell(20, 6), cell(20, 17)), either(side, parts[2], parts[3])));
        return or(old, newer);
    }

    private static Says relation() {
        Set<String> former = asked;
        asked = new LinkedHashSet<>();
        Value left = sum(0, 2);
        String[] ops = {"=", "!=", "<", "<=", ">", ">="};
        int op = pick(6);
        word(ops[op]);
        Value right = sum(0, 2);
        List<Says> all = new ArrayList<>();
        for (String kind : asked) {
            all.add(guard(kind));
        }
        all.add(p -> {
            long x = left.of(p);
            long y = right.of(p);
            switch (op) {
                case 0: return x == y;
                case 1: return x != y;
                case 2: return x < y;
                case 3: return x <= y;
                case 4: return x > y;
                default: return x >= y;
            }
        });
        asked = former;
        return p -> {
            for (Says s : all) {
                if (!s.of(p)) {
                    return false;
                }
            }
            return true;
        };
    }

    private static Value sum(int nest, int size) {
        Value x = product(nest, size);
        while (pick(4) == 0) {
            x = binary(x, "+-|^", nest, size, true);
        }
        return x;
    }

    private static Value product(int nest, int size) {
        Value x = atom(nest, size);
        while (pick(5) == 0) {
            x = binary(x, "*/%&<>", nest, size, false);
        }
        return x;
    }

    private static Value binary(Value x, String ops, int nest, int size, boolean sum) {
        char op = ops.charAt(pick(ops.length()));
        word(op == '<' ? "<<" : op == '>' ? ">>" : "" + op);
        Value y = sum ? product(nest, size) : atom(nest, size);
        return p -> {
            long a = x.of(p);
            long b = y.of(p);
            return worked(op, a, b) & 0xFFFFFFFFL;
        };
    }

    private static long worked(char op, long a, long b) {
        if ((op == '/' || op == '%') && b == 0) {
            throw new NoMatch();
        }
        switch (op) {
            case '+': return a + b;
            case '-': return a - b;
            case '*': return a * b;
            case '/': return a / b;
            case '%': return a % b;
            case '&': return a & b;
            case '|': return a | b;
            case '^': return a ^ b;
            case '<': return a << (b & 31);
            default: return a >> (b & 31);
        }
    }

    private static Value atom(int nest, int size) {
        switch (pick(nest < 2 ? 8 : 4)) {
            case 0: {
                word("len");
                return p -> p.length;
            }
            case 3: {
                word("-");
                Value x = pick(5) == 0 ? atom(2, size) : leaf();
                return p -> -x.of(p) & 0xFFFFFFFFL;
            }
            case 4: {
                word("{");
                Value x = sum(nest + 1, size);
                word("}");
                return x;
            }
            case 5: case 6: case 7: return access(nest);
            default: return leaf();
        }
    }

    private static Value leaf() {
        long n = writeNumber(number());
        return p -> n;
    }

    private static Value access(int nest) {
        String kind = KINDS[pick(7)];
        word(kind);
        if (!kind.equals("ether")) {
            asked.add(kind);
        }
        word("[");
        Value place;
        if (pick(3) == 0) {
            place = sum(nest + 1, 1);
        } else {
            long n = writeNumber(pick(24));
            place = p -> n;
        }
        int size = 1;
        if (pick(2) == 0) {
            word(":");
            size = (int) writeNumber(1 << pick(3));
        }
        word("]");
        int n = size;
        boolean behind = kind.equals("tcp") || kind.equals("udp") || kind.equals("icmp");
        int base = kind.equals("ether") ? 0 : 14;
        return p -> {
            long at = place.of(p);
            long more = behind ? 4 * (read(p, 14, 1) & 15) : 0;
            return read(p, at + base + more & 0xFFFFFFFFL, n);
        };
    }

    private static int[] packet() {
        int[] p = new int[pick(6) == 0 ? pick(30) : 54 + pick(30)];
        for (int i = 0; i < p.length; i++) {
            p[i] = pick(3) == 0 ? pick(256) : pick(4);
        }
        int[][] types = {{8, 0}, {8, 0}, {0x86, 0xdd}, {8, 6}};
        int[] type = types[pick(4)];
        int[] numbers = {6, 17, 1, 2};
        put(p, 12, type[0]);
        put(p, 13, type[1]);
        put(p, 14, 0x45 + (pick(3) == 0 ? 1 : 0));
        put(p, 20, pick(2) == 0 ? 0 : pick(256));
        put(p, 21, pick(2) == 0 ? 0 : pick(256));
        if (type[1] == 0) {
            put(p, 23, numbers[pick(4)]);
            put(p, 20, 0);
            put(p, 21, pick(4) == 0 ? 1 : 0);
        } else {
            put(p, 20, numbers[pick(4)]);
        }
        for (int i = 26; i < 34; i++) {
            put(p, i, i % 4 == 2 ? 10 : i % 4 == 1 ? pick(4) : 0);
        }
        for (int i = 34; i < 60; i += 2) {
            put(p, i, 0);
            put(p, i + 1, pick(5));
        }
        return p;
    }

    private static void put(int[] p, int i, int value) {
        if (i < p.length) {
            p[i] = value;
        }
    }

    private static void feed(FilterForge x, int[] cells, int size) {
        for (int i = 0; i < size; i += 20) {
            int[] five = new int[5];
            for (int k = 0; k < 20; k++) {
                five[k / 4] = five[k / 4] << 8 | (i + k < size ? cells[i + k] : 0);
            }
            x.feed(five[0], five[1], five[2], five[3], five[4]);
        }
        x.end(size);
    }

    private static void due(String what, long got, long want) {
        if (got != want) {
            wrong++;
            System.out.println(what + " answered " + got + ", due is " + want + ", of " + text);
        }
    }

    public static void main(String[] args) {
        int rounds = args.length > 0 ? Integer.parseInt(args[0]) : 1500;
        int matched = 0;
        int tooLong = 0;
        for (int round = 0; round < rounds && wrong < 10; round++) {
            FilterForge x = new FilterForge();
            int[][] packets = new int[16][];
            for (int p = 0; p < 16; p++) {
                packets[p] = packet();
                feed(x, packets[p], packets[p].length);
                due("packet", x.packet(), p);
            }
            text.setLength(0);
            starts.clear();
            asked = new LinkedHashSet<>();
            Says says = filter(3);
            if (text.length() > 2000) {
                continue;
            }
            feed(x, text.chars().toArray(), text.length());
            int length = x.compile();
            if (length == -3000) {
                tooLong++;
                continue;
            }
            due("compile above 0", length > 0 ? 1 : length, 1);
            due("verify", x.verify(), 0);
            due("translate above 0", x.translate() > 0 ? 1 : 0, 1);
            int bits = x.matches();
            for (int p = 0; p < 16; p++) {
                long want = judge(says, packets[p]);
                matched += want;
                due("matches of " + p, bits >> p & 1, want);
                due("run of " + p, x.run(p), want);
                due("its trap", x.ended(0), 0);
                due("its steps below", x.ended(1) <= length ? 1 : 0, 1);
                due("emulate of " + p, x.emulate(p), want);
                due("its trap", x.ended(0), 0);
            }
            changed(x);
            changed(x);
        }
        System.out.println("filters by chance: " + matched + " matches, " + tooLong + " too long");
        System.exit(wrong == 0 ? 0 : 1);
    }

    private static final String[] OTHERS = {"ip", "tcp", "ether", "proto", "src", "dst", "host", "net", "port", "portrange",
        "less", "greater", "not", "and", "or", "len", "(", ")", "{", "}", "[", "]", ":", "/", "-", "+", "*", "%", "&", "|",
        "^", "<<", ">>", "=", "!=", "<", "<=", ">", ">=", "1", "0x10", "1.2.3.4", "..", "ipv6", "99999999999"};

    /** What is ahead of a change can stand there, so that the text can't be WRONG ahead of it. */
    private static void changed(FilterForge x) {
        String whole = text.toString();
        int start = starts.get(pick(starts.size()));
        String ahead = whole.substring(0, start);
        String behind = whole.substring(start);
        due("cut at " + start, compile(x, ahead, -1 - start), -1 - start);
        due("no word at " + start, compile(x, ahead + "@" + behind, 0), -1 - start);
        String other = OTHERS[pick(OTHERS.length)];
        int answer = compile(x, ahead + " " + other + " " + behind, -1 - start);
        due(other + " put in at " + start, answer > 0 || answer == -3000 || answer <= -1 - start ? 1 : answer, 1);
    }

    /** What is due for any good answer, too. */
    private static int compile(FilterForge x, String changed, int good) {
        if (changed.length() > 2000) {
            return good;
        }
        feed(x, changed.chars().toArray(), changed.length());
        int answer = x.compile();
        return answer > 0 ? good : answer;
    }

    private static int judge(Says says, int[] packet) {
        try {
            return says.of(packet) ? 1 : 0;
        } catch (NoMatch e) {
            return 0;
        }
    }
}
