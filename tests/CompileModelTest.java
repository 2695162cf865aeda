import java.util.ArrayList;
import java.util.List;
import java.util.Random;

/**
 * Texts by chance (always the same ones), good ones and changed ones. Where each is WRONG, its BLOCKS and
 * each INSTRUCTION are worked out here a second time, from a tree, the ways one by one as the document tells
 * them (promises 6, 8, 19, 20).
 */
public final class CompileModelTest {
    private static int wrong = 0;
    private static Random chance;
    private static String text = "";

    // ---- words
    private static final class Wrong extends RuntimeException {
        private static final long serialVersionUID = 1L;
        private final int place;

        Wrong(int place) {
            super(null, null, false, false);
            this.place = place;
        }
    }

    private static final class Word {
        private final String says;
        private final int place;

        Word(String says, int place) {
            this.says = says;
            this.place = place;
        }
    }

    private static final String[] SIGNS = {"<<", ">>", "!=", "<=", ">=", "(", ")", "{", "}", "[", "]", ":", "/", "-", "+", "*",
        "%", "&", "|", "^", "=", "<", ">"};
    private static final String BAD = "bad";
    private static final String END = "end";

    /** A byte that begins no word is a word of its own, that can stand nowhere. */
    private static List<Word> words(String s) {
        List<Word> all = new ArrayList<>();
        int i = 0;
        while (i < s.length()) {
            char c = s.charAt(i);
            int from = i;
            if (c == ' ' || c == '\n') {
                i++;
                continue;
            }
            if ("abcdefghijklmnopqrstuvwxyz0123456789.".indexOf(c) >= 0) {
                while (i < s.length() && "abcdefghijklmnopqrstuvwxyz0123456789.".indexOf(s.charAt(i)) >= 0) {
                    i++;
                }
                all.add(new Word(s.substring(from, i), from));
                continue;
            }
            String found = null;
            for (String sign : SIGNS) {
                if (found == null && s.startsWith(sign, i)) {
                    found = sign;
                }
            }
            all.add(new Word(found == null ? BAD + "!" : found, from));
            i += found == null ? 1 : found.length();
        }
        all.add(new Word(END + "!", s.length()));
        return all;
    }

    // ---- what is read
    private static final class Sum {
        private char kind; // n number, l len, b brace, m minus, a access, o operation
        private long n;
        private String name;
        private int size = 1;
        private Sum x;
        private Sum y;

        Sum(char kind) {
            this.kind = kind;
        }

        boolean isN() {
            return kind == 'n';
        }

        Sum bare() {
            return kind == 'b' ? x.bare() : this;
        }
    }

    private static final class Node {
        private char kind; // t test, a and, o or, n not
        private Node a;
        private Node b;
        private Sum left;
        private String sign;
        private Sum right;
        private int block;

        Node(char kind) {
            this.kind = kind;
        }
    }

    private static List<Word> row;
    private static int at;

    private static String word() {
        return row.get(at).says;
    }

    private static boolean is(String... some) {
        for (String s : some) {
            if (word().equals(s)) {
                return true;
            }
        }
        return false;
    }

    private static Wrong here() {
        return new Wrong(row.get(at).place);
    }

    private static void must(String s) {
        if (!is(s)) {
            throw here();
        }
        at++;
    }

    private static long numberOf(String w) {
        if (w.matches("0x[0-9a-f]{1,8}")) {
            return Long.parseLong(w.substring(2), 16);
        }
        if (!w.matches("[0-9]+")) {
            return -1;
        }
        java.math.BigInteger n = new java.math.BigInteger(w);
        return n.bitLength() > 32 ? -1 : n.longValue();
    }

    private static long number(long most) {
        long n = numberOf(word());
        if (n < 0 || n > most) {
            throw here();
        }
        at++;
        return n;
    }

    private static long address() {
        String[] parts = word().split("\\.", -1);
        long a = 0;
        boolean good = parts.length == 4;
        for (String part : parts) {
            long n = part.startsWith("0x") ? -1 : numberOf(part);
            good = good && n >= 0 && n <= 255;
            a = a * 256 + n;
        }
        if (!good) {
            throw here();
        }
        at++;
        return a;
    }

    private static Node filter(int open) {
        Node all = row(open);
        while (is("or")) {
            at++;
            all = both('o', all, row(open));
        }
        return all;
    }

    private static Node row(int open) {
        Node all = one(open);
        while (is("and")) {
            at++;
            all = both('a', all, one(open));
        }
        return all;
    }

    private static Node both(char kind, Node a, Node b) {
        Node n = new Node(kind);
        n.a = a;
        n.b = b;
        return n;
    }

    private static final String[] ACCESSES = {"ether", "ip", "ip6", "arp", "tcp", "udp", "icmp"};

    private static Node one(int open) {
        if (is("not", "(")) {
            if (open == 20) {
                throw here();
            }
            boolean not = is("not");
            at++;
            if (not) {
                return both('n', one(open + 1), null);
            }
            Node inner = filter(open + 1);
            must(")");
            return inner;
        }
        if (is("len", "{", "-") || numberOf(word()) >= 0) {
            return relation();
        }
        if (is(ACCESSES)) {
            return row.get(at + 1).says.equals("[") ? relation() : protocol();
        }
        return sided();
    }

    private static Node protocol() {
        String name = word();
        at++;
        if (name.equals("ether")) {
            must("proto");
            return type(number(65535));
        }
        if (name.equals("ip") && is("proto")) {
            at++;
            return and(type(2048), cell(23, number(255)));
        }
        switch (name) {
            case "ip": return type(2048);
            case "ip6": return type(34525);
            case "arp": return type(2054);
            case "icmp": return and(type(2048), cell(23, 1));
            default:
                int n = name.equals("tcp") ? 6 : 17;
                return or(and(type(2048), cell(23, n)), and(type(34525), cell(20, n)));
        }
    }

    private static Node sided() {
        String side = "";
        if (is("src", "dst")) {
            side = word();
            at++;
        }
        String what = word();
        boolean length = side.isEmpty() && is("less", "greater");
        if (!length && !is("host", "net", "port", "portrange")) {
            throw here();
        }
        at++;
        switch (what) {
            case "host": return addresses(side, address(), -1);
            case "net": {
                long a = address();
                must("/");
                long bits = numberOf(word());
                if (bits < 0 || bits > 32 || a % (1L << 32 - bits) != 0) {
                    throw here();
                }
                at++;
                return addresses(side, a, (int) bits);
            }
            case "port": {
                long n = number(65535);
                return ports(side, n, -1);
            }
            case "portrange": {
                long n = number(65535);
                must("-");
                if (numberOf(word()) < n) {
                    throw here();
                }
                return ports(side, n, number(65535));
            }
            default: return test(new Sum('l'), what.equals("less") ? "<=" : ">=", num(number(4294967295L)));
        }
    }

    // ---- what it says
    private static Node and(Node a, Node b) {
        return both('a', a, b);
    }

    private static Node or(Node a, Node b) {
        return both('o', a, b);
    }

    private static Node test(Sum left, String sign, Sum right) {
        Node n = new Node('t');
        n.left = left;
        n.sign = sign;
        n.right = right;
        return n;
    }

    private static Sum num(long n) {
        Sum s = new Sum('n');
        s.n = n;
        return s;
    }

    private static Sum op(String name, Sum x, Sum y) {
        Sum s = new Sum('o');
        s.name = name;
        s.x = x;
        s.y = y;
        return s;
    }

    private static Sum access(String name, Sum x, int size) {
        Sum s = new Sum('a');
        s.name = name;
        s.x = x;
        s.size = size;
        return s;
    }

    private static Sum read(long place, int size) {
        return access("ether", num(place), size);
    }

    private static Node type(long n) {
        return test(read(12, 2), "=", num(n));
    }

    private static Node cell(long place, long n) {
        return test(read(place, 1), "=", num(n));
    }

    private static Node whole() {
        return test(op("&", read(20, 2), num(8191)), "=", num(0));
    }

    private static Node addresses(String side, long a, int bits) {
        Node[] two = new Node[2];
        for (int i = 0; i < 2; i++) {
            Sum s = read(26 + 4 * i, 4);
            if (bits >= 0) {
                s = op("&", s, num((1L << 32) - (1L << 32 - bits)));
            }
            two[i] = test(s, "=", num(a));
        }
        return and(type(2048), side(side, two[0], two[1]));
    }

    private static Node side(String side, Node source, Node target) {
        return side.isEmpty() ? or(source, target) : side.equals("src") ? source : target;
    }

    private static Node port(Sum x, long low, long high) {
        return high < 0 ? test(x, "=", num(low)) : and(test(x, ">=", num(low)), test(x, "<=", num(high)));
    }

    /** X k: read like tcp[k - 14 : 2], but for how the place is made. */
    private static Sum behind(int k) {
        Sum s = new Sum('x');
        s.n = k;
        return s;
    }

    private static Node ports(String side, long low, long high) {
        Node older = side(side, port(behind(14), low, high), port(behind(16), low, high));
        Node newer = side(side, port(read(54, 2), low, high), port(read(56, 2), low, high));
        return or(and(type(2048), and(or(cell(23, 6), cell(23, 17)), and(whole(), older))),
            and(type(34525), and(or(cell(20, 6), cell(20, 17)), newer)));
    }

    private static Node guard(String name) {
        switch (name) {
            case "ip": return type(2048);
            case "ip6": return type(34525);
            case "arp": return type(2054);
            default: return and(type(2048), and(cell(23, name.equals("tcp") ? 6 : name.equals("udp") ? 17 : 1), whole()));
        }
    }

    private static List<String> asked;

    private static Node relation() {
        asked = new ArrayList<>();
        Sum left = sum(0);
        if (!is("=", "!=", "<", "<=", ">", ">=")) {
            throw here();
        }
        String sign = word();
        at++;
        Node all = test(left, sign, sum(0));
        for (int i = asked.size() - 1; i >= 0; i--) {
            all = and(guard(asked.get(i)), all);
        }
        return all;
    }

    private static Sum sum(int open) {
        Sum s = product(open);
        while (is("+", "-", "|", "^")) {
            String name = word();
            at++;
            s = op(name, s, product(open));
        }
        return s;
    }

    private static Sum product(int open) {
        Sum s = atom(open);
        while (is("*", "/", "%", "&", "<<", ">>")) {
            String name = word();
            at++;
            s = op(name, s, atom(open));
        }
        return s;
    }

    private static Sum atom(int open) {
        int signs = 0;
        while (is("-")) {
            signs++;
            if (signs == 9) {
                throw here();
            }
            at++;
        }
        Sum s;
        if (numberOf(word()) >= 0) {
            s = num(number(4294967295L));
        } else if (is("len")) {
            at++;
            s = new Sum('l');
        } else if (is("{")) {
            if (open == 2) {
                throw here();
            }
            at++;
            s = new Sum('b');
            s.x = sum(open + 1);
            must("}");
        } else if (is(ACCESSES)) {
            s = accessed(open);
        } else {
            throw here();
        }
        for (; signs > 0; signs--) {
            Sum m = new Sum('m');
            m.x = s;
            s = m;
        }
        return s;
    }

    private static Sum accessed(int open) {
        String name = word();
        if (!name.equals("ether") && !asked.contains(name)) {
            asked.add(name);
        }
        at++;
        if (!is("[") || open == 2) {
            throw here();
        }
        at++;
        Sum place = sum(open + 1);
        int size = 1;
        if (is(":")) {
            at++;
            long n = numberOf(word());
            if (n != 1 && n != 2 && n != 4) {
                throw here();
            }
            at++;
            size = (int) n;
        }
        must("]");
        return access(name, place, size);
    }

    // ---- BLOCKS
    private static List<Node> blocks;
    private static int[] yes;
    private static int[] no;
    private static boolean[] kept;

    private static void collect(Node n) {
        if (n.kind == 't') {
            n.block = blocks.size();
            blocks.add(n);
            return;
        }
        collect(n.a);
        if (n.b != null) {
            collect(n.b);
        }
    }

    private static int first(Node n) {
        return n.kind == 't' ? n.block : first(n.a);
    }

    private static void ways(Node n, int y, int x) {
        switch (n.kind) {
            case 't': yes[n.block] = y; no[n.block] = x; break;
            case 'n': ways(n.a, x, y); break;
            case 'a': ways(n.a, first(n.b), x); ways(n.b, y, x); break;
            default: ways(n.a, y, first(n.b)); ways(n.b, y, x); break;
        }
    }

    /** {place, size, k}, or null if it is no READ(o, n) = k told by numbers. */
    private static long[] told(int b) {
        Node n = blocks.get(b);
        Sum left = n.left.bare();
        Sum right = n.right.bare();
        if (!n.sign.equals("=") || right.kind != 'n' || left.kind != 'a' || left.x.bare().kind != 'n'
            || "tcp udp icmp".contains(left.name)) {
            return null;
        }
        long base = left.name.equals("ether") ? 0 : 14;
        return new long[] {left.x.bare().n + base & 0xFFFFFFFFL, left.size, right.n};
    }

    /** Where a way from b goes on to, or -1 if what it goes to is not DECIDED by b. */
    private static int onward(int b, int to, boolean byYes) {
        if (to >= blocks.size()) {
            return -1;
        }
        long[] one = told(b);
        long[] other = told(to);
        if (one == null || other == null || one[0] != other[0] || one[1] != other[1]) {
            return -1;
        }
        boolean same = one[2] == other[2];
        if (byYes) {
            return same ? yes[to] : no[to];
        }
        return same ? no[to] : -1;
    }

    private static boolean shorten() {
        for (int b = 0; b < blocks.size(); b++) {
            int y = onward(b, yes[b], true);
            if (y >= 0) {
                yes[b] = y;
                return true;
            }
            int n = onward(b, no[b], false);
            if (n >= 0) {
                no[b] = n;
                return true;
            }
        }
        return false;
    }

    private static void keep(int b) {
        if (b < blocks.size() && !kept[b]) {
            kept[b] = true;
            keep(yes[b]);
            keep(no[b]);
        }
    }

    // ---- code
    private static final class Code {
        private int code;
        private int d;
        private int s;
        private int off;
        private long k;
        private int goal = -1;
    }

    private static List<Code> codes;

    private static Code put(int code, int d, int s, int off, long k) {
        Code c = new Code();
        c.code = code;
        c.d = d;
        c.s = s;
        c.off = off;
        c.k = k;
        codes.add(c);
        return c;
    }

    private static int opOf(String name) {
        switch (name) {
            case "+": return 0;
            case "-": return 1;
            case "*": return 2;
            case "/": return 3;
            case "|": return 4;
            case "&": return 5;
            case "<<": return 6;
            case ">>": return 7;
            case "%": return 9;
            default: return 10;
        }
    }

    private static int opOfSign(String sign) {
        switch (sign) {
            case "=": return 1;
            case ">": return 2;
            case ">=": return 3;
            case "!=": return 5;
            case "<": return 10;
            default: return 11;
        }
    }

    private static String otherSign(String sign) {
        String[] signs = {"=", "!=", "<", ">=", ">", "<="};
        for (int i = 0; i < 6; i++) {
            if (signs[i].equals(sign)) {
                return signs[i ^ 1];
            }
        }
        return sign;
    }

    private static int goesToNo() {
        return blocks.size() + 1;
    }

    private static int readCode(int size) {
        return size == 4 ? 32 : size == 2 ? 40 : 48;
    }

    private static void value(Sum s, int d) {
        switch (s.kind) {
            case 'n': put(0xb4, 0, 0, 0, s.n); break;
            case 'l': put(0xbc, 0, 6, 0, 0); break;
            case 'b': value(s.x, d); break;
            case 'm': value(s.x, d); put(0x84, 0, 0, 0, 0); break;
            case 'o': operation(s, d); break;
            case 'x':
                put(48, 0, 0, 0, 14);
                put(0x54, 0, 0, 0, 15);
                put(0x64, 0, 0, 0, 2);
                put(72, 0, 0, 0, s.n);
                break;
            default: reading(s, d); break;
        }
    }

    private static void pushed(Sum y, int d) {
        put(123, 10, 0, -8 - 8 * d, 0);
        value(y, d + 1);
        put(0xbc, 7, 0, 0, 0);
        put(121, 0, 10, -8 - 8 * d, 0);
    }

    private static void operation(Sum s, int d) {
        boolean divides = s.name.equals("/") || s.name.equals("%");
        value(s.x, d);
        if (s.y.isN() && divides && s.y.n == 0) {
            put(5, 0, 0, 0, 0).goal = goesToNo();
        } else if (s.y.isN()) {
            put(opOf(s.name) * 16 + 4, 0, 0, 0, s.y.n);
        } else {
            pushed(s.y, d);
            if (divides) {
                put(22, 7, 0, 0, 0).goal = goesToNo();
            }
            put(opOf(s.name) * 16 + 12, 0, 7, 0, 0);
        }
    }

    private static void reading(Sum s, int d) {
        boolean body = "tcp udp icmp".contains(s.name) && !s.name.equals("ip");
        long base = s.name.equals("ether") ? 0 : 14;
        if (!body && s.x.isN()) {
            put(readCode(s.size), 0, 0, 0, base + s.x.n);
            return;
        }
        value(s.x, d);
        if (body) {
            put(123, 10, 0, -8 - 8 * d, 0);
            put(48, 0, 0, 0, 14);
            put(0x54, 0, 0, 0, 15);
            put(0x64, 0, 0, 0, 2);
            put(121, 7, 10, -8 - 8 * d, 0);
            put(0x0c, 0, 7, 0, 0);
        }
        put(readCode(s.size) + 32, 0, 0, 0, base);
    }

    private static void block(int b, int next) {
        Node n = blocks.get(b);
        value(n.left, 0);
        boolean k = n.right.isN();
        if (!k) {
            put(123, 10, 0, -8, 0);
            value(n.right, 1);
            put(0xbc, 7, 0, 0, 0);
            put(121, 0, 10, -8, 0);
        }
        if (yes[b] == no[b]) {
            if (yes[b] != next) {
                put(5, 0, 0, 0, 0).goal = yes[b];
            }
            return;
        }
        boolean turned = no[b] != next && yes[b] == next;
        int op = opOfSign(turned ? otherSign(n.sign) : n.sign);
        put(op * 16 + (k ? 6 : 14), 0, k ? 0 : 7, 0, k ? n.right.n : 0).goal = turned ? no[b] : yes[b];
        if (!turned && no[b] != next) {
            put(5, 0, 0, 0, 0).goal = no[b];
        }
    }

    private static long[] program() {
        codes = new ArrayList<>();
        int[] starts = new int[blocks.size() + 2];
        put(0xbf, 6, 1, 0, 0);
        for (int b = 0; b < blocks.size(); b++) {
            starts[b] = codes.size();
            int next = b + 1;
            while (next < blocks.size() && !kept[next]) {
                next++;
            }
            if (kept[b]) {
                block(b, next);
            }
        }
        for (int end = 0; end < 2; end++) {
            starts[blocks.size() + end] = codes.size();
            put(0xb4, 0, 0, 0, 1 - end);
            put(149, 0, 0, 0, 0);
        }
        long[] made = new long[codes.size()];
        for (int i = 0; i < made.length; i++) {
            Code c = codes.get(i);
            int off = c.goal < 0 ? c.off : starts[c.goal] - i - 1;
            made[i] = c.code + (c.d << 8) + (c.s << 12) + ((off & 0xFFFFL) << 16) + ((c.k & 0xFFFFFFFFL) << 32);
        }
        return made;
    }

    /** -1 less the place, or how many BLOCKS. */
    private static int understood(String s) {
        row = words(s);
        at = 0;
        Node all;
        try {
            all = filter(0);
            if (!is(END + "!")) {
                throw here();
            }
        } catch (Wrong w) {
            return -1 - w.place;
        }
        blocks = new ArrayList<>();
        collect(all);
        yes = new int[blocks.size()];
        no = new int[blocks.size()];
        ways(all, blocks.size(), blocks.size() + 1);
        boolean more = true;
        while (more) {
            more = shorten();
        }
        kept = new boolean[blocks.size()];
        keep(0);
        return blocks.size();
    }

    // ---- texts by chance
    private static int pick(int n) {
        return chance.nextInt(n);
    }

    private static String of(String... some) {
        return some[pick(some.length)];
    }

    private static String someNumber() {
        switch (pick(8)) {
            case 0: return "" + (chance.nextInt() & 0xFFFFFFFFL);
            case 1: return "0x" + Integer.toHexString(chance.nextInt() >>> pick(32));
            case 2: return "00" + pick(100);
            case 3: return of("0", "0x0", "4294967295", "4294967294", "65535", "0xffffffff");
            default: return "" + pick(40);
        }
    }

    private static String someFilter(int depth) {
        StringBuilder b = new StringBuilder(someRow(depth));
        while (pick(3) == 0) {
            b.append(" or ").append(someRow(depth));
        }
        return b.toString();
    }

    private static String someRow(int depth) {
        StringBuilder b = new StringBuilder(someOne(depth));
        while (pick(3) == 0) {
            b.append(" and ").append(someOne(depth));
        }
        return b.toString();
    }

    private static String someOne(int depth) {
        switch (pick(depth > 0 ? 9 : 6)) {
            case 0: case 1: return somePrimitive();
            case 2: case 3: return someTold();
            case 4: return of("ip", "ip6", "arp", "tcp", "udp", "icmp");
            case 5: return someSum(0) + " " + of("=", "!=", "<", "<=", ">", ">=") + " " + someSum(0);
            case 6: return "not " + someOne(depth - 1);
            default: return "( " + someFilter(depth - 1) + " )";
        }
    }

    /** READS that are often of one place, in all the ways in which they can be told. */
    private static String someTold() {
        String number = of("2048", "34525", "2054", "0x800", "6", "17", "1");
        String right = of(number, number, "{ " + number + " }", "{ { " + number + " } }", "- " + number);
        String left = of("ether [ 12 : 2 ]", "ether [ { 12 } : 2 ]", "{ ether [ 12 : 2 ] }", "ip [ 9 ]", "ether [ 23 ]",
            "ip [ { 9 } ]", "ether [ { 23 } : 1 ]", "ip [ 4294967294 : 2 ]", "ether [ 20 ]", "ip6 [ 6 ]", "{ ip6 [ { 6 } ] }",
            "ip [ 12 : 4 ]", "ether [ 12 ]", "tcp [ 0 : 2 ]");
        return of("ether proto " + number, left + " = " + right, left + " = " + right, left + " != " + right,
            number + " = " + left, "ip proto " + of("6", "17", "1", "0x6"));
    }

    private static String somePrimitive() {
        String side = of("", "", "src ", "dst ");
        String a = of("10.0.0.0", "10.0.0.1", "192.168.128.0", "0.0.0.0", "255.255.255.255", "128.0.0.0", "010.1.2.3");
        switch (pick(6)) {
            case 0: return side + "host " + a;
            case 1: return side + "net " + a + " / " + of("0", "1", "8", "24", "32", "17", "0x10");
            case 2: return side + "port " + of("0", "80", "65535", "0x50");
            case 3: return side + "portrange " + of("1 - 5", "80 - 80", "0 - 65535", "0 - 0", "5 - 4");
            case 4: return of("less ", "greater ") + someNumber();
            default: return of("ether proto ", "ip proto ") + pick(300);
        }
    }

    private static String someSum(int open) {
        StringBuilder b = new StringBuilder(someAtom(open));
        while (pick(3) == 0) {
            b.append(" ").append(of("+", "-", "|", "^", "*", "/", "%", "&", "<<", ">>")).append(" ").append(someAtom(open));
        }
        return b.toString();
    }

    private static String someAtom(int open) {
        switch (pick(open < 2 ? 9 : 4)) {
            case 0: return "len";
            case 1: return "- " + someAtom(open);
            case 2: case 3: return someNumber();
            case 4: return "{ " + someSum(open + 1) + " }";
            default:
                return of(ACCESSES) + " [ " + (pick(2) == 0 ? someNumber() : someSum(open + 1)) + of("", "", " : 1", " : 2", " : 4")
                    + " ]";
        }
    }

    private static final String[] MORE = {"ip", "tcp", "ether", "proto", "src", "dst", "host", "net", "port", "portrange",
        "less", "greater", "not", "and", "or", "len", "(", ")", "{", "}", "[", "]", ":", "/", "-", "+", "*", "%", "&", "|",
        "^", "<<", ">>", "=", "!=", "<", "<=", ">", ">=", "1", "0x10", "1.2.3.4", "..", "ipv6", "99999999999", "!", "@",
        "not not not not not not not not not not", "( ( ( ( ( ( ( ( ( (", "- - - - - - - -", "{ {", "0x", "1a", "4294967296"};

    private static String changed(String s) {
        List<String> all = new ArrayList<>(List.of(s.split(" ")));
        for (int i = 1 + pick(2); i > 0 && !all.isEmpty(); i--) {
            int place = pick(all.size());
            switch (pick(4)) {
                case 0: all.remove(place); break;
                case 1: all.add(place, of(MORE)); break;
                case 2: all.set(place, of(MORE)); break;
                default: all = new ArrayList<>(all.subList(0, place)); break;
            }
        }
        return String.join(" ", all);
    }

    /** Blanks only where they must be, or more of them. */
    private static String spaced(String s) {
        StringBuilder b = new StringBuilder();
        for (int i = 0; i < s.length(); i++) {
            char c = s.charAt(i);
            if (c != ' ') {
                b.append(c);
                continue;
            }
            boolean needed = i > 0 && i + 1 < s.length() && inWord(s.charAt(i - 1)) && inWord(s.charAt(i + 1));
            if (needed || pick(3) > 0) {
                b.append(of(" ", " ", "  ", "\n", " \n"));
            }
        }
        return b.toString();
    }

    private static boolean inWord(char c) {
        return Character.isLetterOrDigit(c) || c == '.';
    }

    private static void due(String what, long got, long want) {
        if (got != want) {
            wrong++;
            System.out.println(what + " answered " + got + ", due is " + want + ", of " + text);
        }
    }

    private static void feed(FilterForge x, String s) {
        for (int i = 0; i < s.length(); i += 20) {
            int[] five = new int[5];
            for (int k = 0; k < 20; k++) {
                five[k / 4] = five[k / 4] << 8 | (i + k < s.length() ? s.charAt(i + k) & 255 : 0);
            }
            x.feed(five[0], five[1], five[2], five[3], five[4]);
        }
        x.end(s.length());
    }

    private static final int[] tally = new int[4];

    private static void compare(FilterForge x, String s) {
        if (s.length() > 2000) {
            return;
        }
        text = s;
        int size = understood(s);
        feed(x, s);
        int got = x.compile();
        if (size < 0) {
            tally[0]++;
            due("compile", got, size);
            return;
        }
        long[] program = program();
        if (program.length > 4000) {
            tally[1]++;
            due("compile", got, -3000);
            return;
        }
        tally[2]++;
        due("compile", got, program.length);
        due("count(1)", x.count(1), program.length);
        due("count(4)", x.count(4), size);
        int out = 0;
        for (boolean k : kept) {
            out += k ? 0 : 1;
        }
        tally[3] += out;
        due("count(5)", x.count(5), out);
        for (int i = 0; i < program.length && wrong < 20; i++) {
            due("instruction(" + i + ")", x.instruction(i), program[i]);
        }
        due("instruction behind the last", x.instruction(program.length), 0);
        due("verify", x.verify(), 0);
    }

    /** Just 4000 INSTRUCTIONS, and one more. */
    private static void longest() {
        FilterForge x = new FilterForge();
        String s = "port 1";
        int size = 0;
        while (size < 3900) {
            s += " or port 3";
            understood(s + " or len=0");
            size = program().length;
        }
        String full = s + " or len" + "+1".repeat(4000 - size);
        compare(x, full + "=0");
        due("compile of 4000", x.count(1), 4000);
        due("translate of it", x.translate() > 4000 ? 1 : 0, 1);
        due("its last", x.instruction(3999), 149);
        compare(x, full + "+1=0");
        compare(x, full + "/0=0");
        compare(x, full + "=1 or ip");
        due("it stays", x.count(1), 4000);
    }

    /** Texts that make as much as 2000 bytes can. */
    private static void largest() {
        String[] parts = {"port 1", "src portrange 1-2", "tcp", "tcp[0]=udp[0]", "(udp)", "ip[0]/0=1", "len=1+len*{2-len}",
            "not ip", "((ip))", "icmp[-1]%len=0", "{{1}}=1", "len>>len-len|len^len=len", "--------1=1", "net 0.0.0.0/0",
            "1=1", "ip", "ether[12:2]=2048"};
        FilterForge x = new FilterForge();
        for (String part : parts) {
            for (String with : new String[] {" or ", " and "}) {
                for (int length : new int[] {2000, 1200, 700}) {
                    StringBuilder b = new StringBuilder(part);
                    while (b.length() + with.length() + part.length() <= length) {
                        b.append(with).append(part);
                    }
                    compare(x, b.toString());
                }
            }
        }
        compare(x, "(".repeat(20) + "tcp" + ")or tcp".repeat(20));
        compare(x, "1=" + "1+".repeat(900) + "1");
        compare(x, "1=" + "len-".repeat(490) + "1");
        compare(x, "1=" + "len*{".repeat(2) + "1}}");
        compare(x, "len+len*{len+len*{len+len*len}}=len+len*tcp[len+len*udp[len+len*len:2]:4]");
    }

    public static void main(String[] args) {
        int rounds = args.length > 0 ? Integer.parseInt(args[0]) : 4000;
        for (int round = 1; round <= rounds && wrong < 20; round++) {
            chance = new Random(round);
            FilterForge x = new FilterForge();
            String s = someFilter(3);
            compare(x, s);
            compare(x, spaced(s));
            for (int i = 0; i < 4; i++) {
                compare(x, changed(s));
                compare(x, spaced(changed(s)));
            }
        }
        largest();
        longest();
        System.out.println("texts by chance: " + tally[0] + " WRONG, " + tally[1] + " too long, " + tally[2] + " good, "
            + tally[3] + " BLOCKS left out");
        System.exit(wrong == 0 ? 0 : 1);
    }
}
