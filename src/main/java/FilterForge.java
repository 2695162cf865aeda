public final class FilterForge {
    private static final long LOW32 = 0xFFFFFFFFL;
    private static final long SIGN = 1L << 63;
    private static final int STACK_FIRST = 131072;
    private static final int STACK_BEHIND = 131136;
    private static final int STACK_SIZE = 64;

    private static final int MISSING = 1;
    private static final int ASTRAY = 2;
    private static final int NO_MEMORY = 7;
    private static final int TOO_LONG = 9;

    private static final int PLUS = 0;
    private static final int MINUS = 1;
    private static final int TIMES = 2;
    private static final int DIVIDED = 3;
    private static final int OR = 4;
    private static final int AND = 5;
    private static final int LEFT = 6;
    private static final int RIGHT = 7;
    private static final int NEGATED = 8;
    private static final int REST = 9;
    private static final int XOR = 10;
    private static final int TAKEN = 11;
    private static final int SIGNED_RIGHT = 12;

    private static final int EQUAL = 1;
    private static final int ABOVE = 2;
    private static final int NOT_BELOW = 3;
    private static final int SHARING = 4;
    private static final int UNEQUAL = 5;
    private static final int SIGNED_ABOVE = 6;
    private static final int SIGNED_NOT_BELOW = 7;
    private static final int END_OP = 9;
    private static final int BELOW = 10;
    private static final int NOT_ABOVE = 11;
    private static final int SIGNED_BELOW = 12;
    private static final int SIGNED_NOT_ABOVE = 13;

    private final Tape tape = new Tape();
    private final Packets packets = new Packets();
    private final Machine machine = new Machine(packets);
    private final ObjectCode object = new ObjectCode();
    // compile() works in the spare ones, so that a WRONG filter leaves the former ones.
    private Filter filter = new Filter();
    private Filter spareFilter = new Filter();
    private Program program = new Program();
    private Program spareProgram = new Program();
    private boolean filterRead;
    private final Reader reader = new Reader(tape, spareFilter);
    private final Coder coder = new Coder(spareFilter, spareProgram);
    private final Translator translator = new Translator(program, object);
    private final Inspector inspector = new Inspector(program);
    // A second one, so that translate() leaves what known() tells.
    private final Inspector gatekeeper = new Inspector(program);

    public FilterForge() {
    }

    public int feed(int a, int b, int c, int d, int e) {
        if (!tape.hasRoom(20)) {
            return -1;
        }
        tape.put(a);
        tape.put(b);
        tape.put(c);
        tape.put(d);
        tape.put(e);
        return tape.length;
    }

    public int end(int n) {
        if (n < 0 || n > tape.length) {
            return -1;
        }
        tape.length = n;
        return n;
    }

    public int packet() {
        int number = packets.add(tape);
        tape.length = 0;
        return number;
    }

    public long bytes(int p, int i) {
        return packets.eightFrom(p, i);
    }

    public int compile() {
        reader.begin(spareFilter);
        reader.readFilter(Filter.MATCH_LABEL, Filter.NO_LABEL, 0);
        int wrong = reader.wrongPlace();
        tape.length = 0;
        if (wrong >= 0) {
            return -1 - wrong;
        }
        spareFilter.finish();
        int length = coder.code(spareFilter, spareProgram);
        if (length < 0) {
            return -3000;
        }
        swapSpares();
        filterRead = true;
        return length;
    }

    private void swapSpares() {
        Filter formerFilter = filter;
        filter = spareFilter;
        spareFilter = formerFilter;
        Program formerProgram = program;
        program = spareProgram;
        spareProgram = formerProgram;
    }

    public int load() {
        int length = program.takeTape(tape);
        tape.length = 0;
        return length;
    }

    public long instruction(int i) {
        return program.at(i);
    }

    public int verify() {
        return inspector.look(program);
    }

    public long known(int i, int r, int what) {
        return inspector.tell(i, r, what);
    }

    public long run(int p) {
        if (program.length == 0 || packets.lengthOf(p) < 0) {
            return 0;
        }
        return program.perform(machine, p, packets.lengthOf(p));
    }

    public int translate() {
        if (gatekeeper.look(program) != 0) {
            return -1;
        }
        return translator.turn(program);
    }

    public int raw() {
        int length = object.takeTape(tape);
        tape.length = 0;
        return length;
    }

    public int word(int i) {
        return object.at(i);
    }

    public long emulate(int p) {
        if (object.length == 0 || packets.lengthOf(p) < 0) {
            return 0;
        }
        return object.perform(machine, p, packets.lengthOf(p));
    }

    public int ended(int what) {
        switch (what) {
            case 0: return machine.trap;
            case 1: return machine.steps;
            case 2: return machine.place;
            default: return 0;
        }
    }

    public long register(int i) {
        return i < 0 || i >= machine.shown ? 0 : machine.get(i);
    }

    public int stack(int i) {
        return i < 0 || i >= STACK_SIZE ? -1 : machine.stackRow[i] & 255;
    }

    public int matches() {
        if (!filterRead) {
            return -1;
        }
        int bits = 0;
        for (int p = 0; p < packets.held; p++) {
            if (filter.says(packets, p)) {
                bits |= 1 << p;
            }
        }
        return bits;
    }

    public int count(int what) {
        switch (what) {
            case 0: return packets.held;
            case 1: return program.length;
            case 2: return object.length;
            case 3: return tape.length;
            case 4: return filterRead ? filter.blockCount : 0;
            case 5: return filterRead ? filter.leftOut : 0;
            default: return -1;
        }
    }

    private static boolean below(long x, long y) {
        return x + SIGN < y + SIGN;
    }

    private static long lesser(long x, long y) {
        return below(x, y) ? x : y;
    }

    private static long greater(long x, long y) {
        return below(x, y) ? y : x;
    }

    /** Without sign; 0 by a divisor of 0. */
    private static long quotient(long x, long y) {
        if (y == 0) {
            return 0;
        }
        boolean less = x + SIGN < y + SIGN;
        if (y < 0) {
            return less ? 0 : 1;
        }
        if (x >= 0) {
            return x / y;
        }
        long close = ((x >>> 1) / y) << 1;
        long rest = x - close * y;
        return rest + SIGN < y + SIGN ? close : close + 1;
    }

    /** x op y, of 64 bits or (not wide) of 32, as the PROGRAM's machine has it. */
    private static long worked(int op, boolean wide, long first, long second) {
        long x = wide ? first : first & LOW32;
        long y = wide ? second : second & LOW32;
        int by = (int) (y & (wide ? 63 : 31));
        long made;
        switch (op) {
            case PLUS: made = x + y; break;
            case MINUS: made = x - y; break;
            case TIMES: made = x * y; break;
            case DIVIDED: made = quotient(x, y); break;
            case OR: made = x | y; break;
            case AND: made = x & y; break;
            case LEFT: made = x << by; break;
            case RIGHT: made = x >>> by; break;
            case NEGATED: made = -x; break;
            case REST: made = y == 0 ? x : x - quotient(x, y) * y; break;
            case XOR: made = x ^ y; break;
            case TAKEN: made = y; break;
            case SIGNED_RIGHT: made = wide ? x >> by : (int) x >> by; break;
            default: made = 0; break;
        }
        return wide ? made : made & LOW32;
    }

    /** Whether x op y holds, op being one of those that go. */
    private static boolean holds(int op, boolean wide, long first, long second) {
        // With their sign, 32 bits keep the order that they have without it.
        long x = wide ? first : (int) first;
        long y = wide ? second : (int) second;
        switch (op) {
            case 0: return true;
            case EQUAL: return x == y;
            case ABOVE: return below(y, x);
            case NOT_BELOW: return !below(x, y);
            case SHARING: return (x & y) != 0;
            case UNEQUAL: return x != y;
            case SIGNED_ABOVE: return x > y;
            case SIGNED_NOT_BELOW: return x >= y;
            case BELOW: return below(x, y);
            case NOT_ABOVE: return !below(y, x);
            case SIGNED_BELOW: return x < y;
            case SIGNED_NOT_ABOVE: return x <= y;
            default: return false;
        }
    }

    /** The op that holds where this one does not. */
    private static int otherOp(int op) {
        switch (op) {
            case EQUAL: return UNEQUAL;
            case UNEQUAL: return EQUAL;
            case BELOW: return NOT_BELOW;
            case NOT_BELOW: return BELOW;
            case ABOVE: return NOT_ABOVE;
            default: return ABOVE;
        }
    }

    private static final class Tape {
        private static final int ROOM = 2000;

        private final byte[] row = new byte[ROOM];
        private int length;

        private boolean hasRoom(int more) {
            return length + more <= ROOM;
        }

        private void put(int number) {
            if (!hasRoom(4)) {
                return;
            }
            for (int shift = 24; shift >= 0; shift -= 8) {
                row[length] = (byte) (number >> shift);
                length++;
            }
        }

        /** Byte i, -1 if there is none. */
        private int at(int i) {
            return i < 0 || i >= length || i >= ROOM ? -1 : row[i] & 255;
        }

        /** The bytes from place i on as a number, the lowest first. */
        private long lowestFirst(int i, int size) {
            long number = 0;
            for (int k = size - 1; k >= 0; k--) {
                number = number << 8 | at(i + k);
            }
            return number;
        }
    }

    private static final class Packets {
        private static final int MOST = 16;
        private static final int LONGEST = 256;

        private final byte[] cells = new byte[MOST * LONGEST];
        private final int[] lengths = new int[MOST];
        private int held;

        private int add(Tape tape) {
            if (held >= MOST) {
                return -1;
            }
            if (tape.length > LONGEST) {
                return -2;
            }
            for (int i = 0; i < tape.length; i++) {
                cells[held * LONGEST + i] = (byte) tape.at(i);
            }
            lengths[held] = tape.length;
            held++;
            return held - 1;
        }

        /** -1 if there is no such packet. */
        private int lengthOf(int p) {
            return p < 0 || p >= held ? -1 : lengths[p];
        }

        /** Byte i of packet p, -1 if there is none. */
        private int at(int p, long i) {
            return i < 0 || i >= lengthOf(p) ? -1 : cells[p * LONGEST + (int) i] & 255;
        }

        private long eightFrom(int p, int i) {
            if (at(p, i) < 0) {
                return -1;
            }
            long number = 0;
            for (int k = 0; k < 8; k++) {
                int cell = at(p, (long) i + k);
                number = number << 8 | (cell < 0 ? 0 : cell);
            }
            return number;
        }

        /** READ(place, size) of packet p, -1 if that can't be. */
        private long read(int p, long place, int size) {
            if (place < 0 || place + size > lengthOf(p)) {
                return -1;
            }
            long number = 0;
            for (int k = 0; k < size; k++) {
                number = number << 8 | at(p, place + k);
            }
            return number;
        }
    }

    /** Reads a text and builds a Filter of it, a word at a time. */
    private static final class Reader {
        private static final int LACKS = 1;
        private static final int WORD = 2;
        private static final int NONE = 3;
        private static final int SHIFT_LEFT = 256;
        private static final int SHIFT_RIGHT = 257;
        private static final int NOT_EQUAL = 258;
        private static final int UP_TO = 259;
        private static final int FROM = 260;
        private static final int DEEPEST_ONE = 20;
        private static final int DEEPEST_SUM = 2;
        private static final int MOST_MINUS = 8;

        private final Tape text;
        private Filter made;
        private int kind;
        private int first;
        private int behind;
        private int wrong;

        private Reader(Tape tape, Filter filter) {
            text = tape;
            made = filter;
        }

        private void begin(Filter filter) {
            made = filter;
            made.clear();
            behind = 0;
            wrong = -1;
            kind = LACKS;
            next();
        }

        /** The place where the text is WRONG, -1 if it isn't; to be asked behind its FILTER. */
        private int wrongPlace() {
            if (kind != LACKS) {
                fail();
            }
            return wrong;
        }

        // Behind the first fault no word is seen any more, so that each part ends of itself.
        private void fail() {
            if (wrong < 0) {
                wrong = first;
            }
            kind = NONE;
        }

        private void next() {
            if (wrong >= 0) {
                return;
            }
            first = behindBlanks(behind);
            behind = first + 1;
            int sign = text.at(first);
            if (sign < 0) {
                kind = LACKS;
            } else if (inWord(sign)) {
                kind = WORD;
                behind = behindWord(first);
            } else {
                kind = signKind(sign, text.at(first + 1));
                if (kind >= SHIFT_LEFT) {
                    behind = first + 2;
                }
            }
            if (kind == NONE) {
                fail();
            }
        }

        private int behindBlanks(int from) {
            int i = from;
            while (i < text.length && (text.at(i) == ' ' || text.at(i) == 10)) {
                i++;
            }
            return i;
        }

        private int behindWord(int from) {
            int i = from;
            while (i < text.length && inWord(text.at(i))) {
                i++;
            }
            return i;
        }

        private static boolean inWord(int sign) {
            return sign >= 'a' && sign <= 'z' || sign >= '0' && sign <= '9' || sign == '.';
        }

        private static boolean isDigit(int sign) {
            return sign >= '0' && sign <= '9';
        }

        private static int signKind(int sign, int after) {
            switch (sign) {
                case '<': return after == '<' ? SHIFT_LEFT : after == '=' ? UP_TO : sign;
                case '>': return after == '>' ? SHIFT_RIGHT : after == '=' ? FROM : sign;
                case '!': return after == '=' ? NOT_EQUAL : NONE;
                case '(': case ')': case '{': case '}': case '[': case ']':
                case ':': case '/': case '-': case '+': case '*': case '%':
                case '&': case '|': case '^': case '=': return sign;
                default: return NONE;
            }
        }

        private boolean isWord(String name) {
            if (kind != WORD || behind - first != name.length()) {
                return false;
            }
            for (int i = 0; i < name.length(); i++) {
                if (text.at(first + i) != name.charAt(i)) {
                    return false;
                }
            }
            return true;
        }

        private void take(int sign) {
            if (kind != sign) {
                fail();
            }
            next();
        }

        /** The number of the PROTOCOL whose name the word is, -1 if it is none. */
        private int protocol() {
            return isWord("ether") ? Filter.ETHER
                : isWord("ip") ? Filter.IP
                : isWord("ip6") ? Filter.IP6
                : isWord("arp") ? Filter.ARP
                : isWord("tcp") ? Filter.TCP
                : isWord("udp") ? Filter.UDP
                : isWord("icmp") ? Filter.ICMP : -1;
        }

        /** What the word tells as N, -1 if it is no N. */
        private long number() {
            if (kind != WORD) {
                return -1;
            }
            if (text.at(first) == '0' && text.at(first + 1) == 'x') {
                return hexadecimal();
            }
            return digits(first, behind, LOW32);
        }

        private long hexadecimal() {
            int size = behind - first - 2;
            if (size < 1 || size > 8) {
                return -1;
            }
            long number = 0;
            for (int i = first + 2; i < behind; i++) {
                int sign = text.at(i);
                if (!isDigit(sign) && (sign < 'a' || sign > 'f')) {
                    return -1;
                }
                number = number * 16 + (isDigit(sign) ? sign - '0' : sign - 'a' + 10);
            }
            return number;
        }

        private long digits(int from, int until, long most) {
            if (from >= until) {
                return -1;
            }
            long number = 0;
            for (int i = from; i < until; i++) {
                int sign = text.at(i);
                if (!isDigit(sign)) {
                    return -1;
                }
                number = number * 10 + sign - '0';
                if (number > most) {
                    return -1;
                }
            }
            return number;
        }

        /** What the word tells as A, -1 if it is no A. */
        private long address() {
            if (kind != WORD) {
                return -1;
            }
            long whole = 0;
            int from = first;
            for (int part = 0; part < 4; part++) {
                int until = part == 3 ? behind : dotFrom(from);
                long number = digits(from, until, 255);
                if (number < 0) {
                    return -1;
                }
                whole = whole << 8 | number;
                from = until + 1;
            }
            return whole;
        }

        private int dotFrom(int from) {
            for (int i = from; i < behind; i++) {
                if (text.at(i) == '.') {
                    return i;
                }
            }
            return behind;
        }

        private int takeNumber(long least, long most) {
            long n = number();
            if (n < least || n > most) {
                fail();
                return 0;
            }
            next();
            return (int) n;
        }

        private int takeSize() {
            long n = number();
            if (n != 1 && n != 2 && n != 4) {
                fail();
                return 1;
            }
            next();
            return (int) n;
        }

        private int takeAddress() {
            long a = address();
            if (a < 0) {
                fail();
                return 0;
            }
            next();
            return (int) a;
        }

        private void readFilter(int yes, int no, int depth) {
            boolean more = true;
            for (int part = 0; more && part < Tape.ROOM; part++) {
                int miss = made.newLabel();
                readRow(yes, miss, depth);
                more = isWord("or");
                if (more) {
                    made.putLabelHere(miss);
                    next();
                } else {
                    made.joinLabel(miss, no);
                }
            }
        }

        private void readRow(int yes, int no, int depth) {
            boolean more = true;
            for (int part = 0; more && part < Tape.ROOM; part++) {
                int hit = made.newLabel();
                readOne(hit, no, depth);
                more = isWord("and");
                if (more) {
                    made.putLabelHere(hit);
                    next();
                } else {
                    made.joinLabel(hit, yes);
                }
            }
        }

        private void readOne(int yes, int no, int depth) {
            boolean not = isWord("not");
            if (!not && kind != '(') {
                if (beginsRelation()) {
                    readRelation(yes, no);
                } else if (protocol() >= 0) {
                    readProtocol(protocol(), yes, no);
                } else {
                    readSided(yes, no);
                }
                return;
            }
            if (depth >= DEEPEST_ONE) {
                fail();
                return;
            }
            next();
            if (not) {
                readOne(no, yes, depth + 1);
            } else {
                readFilter(yes, no, depth + 1);
                take(')');
            }
        }

        private boolean beginsRelation() {
            if (kind == '{' || kind == '-' || isWord("len") || number() >= 0) {
                return true;
            }
            return protocol() >= 0 && text.at(behindBlanks(behind)) == '[';
        }

        private void readProtocol(int protocol, int yes, int no) {
            next();
            if (isWord("proto") && (protocol == Filter.ETHER || protocol == Filter.IP)) {
                next();
                int n = takeNumber(0, protocol == Filter.ETHER ? 65535 : 255);
                if (protocol == Filter.ETHER) {
                    made.testType(n, yes, no);
                } else {
                    made.testType(2048, Filter.NEXT, no);
                    made.testByte(23, n, yes, no);
                }
            } else if (protocol == Filter.ETHER) {
                fail();
            } else {
                made.testProtocol(protocol, yes, no);
            }
        }

        private void readSided(int yes, int no) {
            boolean source = isWord("src");
            boolean target = isWord("dst");
            int side = source ? Filter.SOURCE : target ? Filter.TARGET : Filter.EITHER;
            if (source || target) {
                next();
            }
            if (isWord("host")) {
                next();
                made.testAddress(side, takeAddress(), false, 0, yes, no);
            } else if (isWord("net")) {
                readNet(side, yes, no);
            } else if (isWord("port")) {
                next();
                int port = takeNumber(0, 65535);
                made.testPorts(side, port, -1, yes, no);
            } else if (isWord("portrange")) {
                next();
                int low = takeNumber(0, 65535);
                take('-');
                made.testPorts(side, low, takeNumber(low, 65535), yes, no);
            } else if (side == Filter.EITHER) {
                readLength(yes, no);
            } else {
                fail();
            }
        }

        private void readNet(int side, int yes, int no) {
            next();
            int a = takeAddress();
            take('/');
            long size = number();
            int mask = size <= 0 ? 0 : size >= 32 ? -1 : -1 << (32 - (int) size);
            if (size < 0 || size > 32 || (a & ~mask) != 0) {
                fail();
                return;
            }
            next();
            made.testAddress(side, a, true, mask, yes, no);
        }

        private void readLength(int yes, int no) {
            boolean less = isWord("less");
            if (!less && !isWord("greater")) {
                fail();
                return;
            }
            next();
            made.testLength(less ? NOT_ABOVE : NOT_BELOW, takeNumber(0, LOW32), yes, no);
        }

        private void readRelation(int yes, int no) {
            made.askNothing();
            int from = made.itemCount;
            readSum(0, 0);
            int middle = made.itemCount;
            int op = comparison();
            if (op < 0) {
                fail();
            }
            next();
            readSum(1, 0);
            int until = made.itemCount;
            made.testGuards(no);
            made.test(from, middle, until, op, yes, no);
        }

        private int comparison() {
            switch (kind) {
                case '=': return EQUAL;
                case NOT_EQUAL: return UNEQUAL;
                case '<': return BELOW;
                case UP_TO: return NOT_ABOVE;
                case '>': return ABOVE;
                case FROM: return NOT_BELOW;
                default: return -1;
            }
        }

        private int addingOp() {
            switch (kind) {
                case '+': return PLUS;
                case '-': return MINUS;
                case '|': return OR;
                case '^': return XOR;
                default: return -1;
            }
        }

        private int timesOp() {
            switch (kind) {
                case '*': return TIMES;
                case '/': return DIVIDED;
                case '%': return REST;
                case '&': return AND;
                case SHIFT_LEFT: return LEFT;
                case SHIFT_RIGHT: return RIGHT;
                default: return -1;
            }
        }

        /** Whether it was an N alone. */
        private boolean readSum(int depth, int nest) {
            boolean alone = readProduct(depth, nest);
            int op = addingOp();
            for (int part = 0; op >= 0 && part < Tape.ROOM; part++) {
                next();
                int mark = made.itemCount;
                made.item(Filter.PUSH, 0, depth);
                made.joinSides(op, depth, mark, readProduct(depth + 1, nest));
                alone = false;
                op = addingOp();
            }
            return alone;
        }

        private boolean readProduct(int depth, int nest) {
            boolean alone = readAtom(depth, nest);
            int op = timesOp();
            for (int part = 0; op >= 0 && part < Tape.ROOM; part++) {
                next();
                int mark = made.itemCount;
                made.item(Filter.PUSH, 0, depth);
                made.joinSides(op, depth, mark, readAtom(depth + 1, nest));
                alone = false;
                op = timesOp();
            }
            return alone;
        }

        private boolean readAtom(int depth, int nest) {
            int signs = 0;
            while (kind == '-' && signs < MOST_MINUS) {
                signs++;
                next();
            }
            boolean alone = readBareAtom(depth, nest);
            for (int i = 0; i < signs; i++) {
                made.item(Filter.NEGATE, 0, 0);
            }
            return alone && signs == 0;
        }

        private boolean readBareAtom(int depth, int nest) {
            long n = number();
            if (n >= 0) {
                made.item(Filter.NUMBER, 1, (int) n);
                next();
                return true;
            }
            if (isWord("len")) {
                made.item(Filter.LENGTH, 0, 0);
                next();
            } else if (kind == '{' && nest < DEEPEST_SUM) {
                next();
                if (readSum(depth, nest + 1)) {
                    made.hideNumber();
                }
                take('}');
            } else if (protocol() >= 0) {
                readAccess(depth, nest);
            } else {
                fail();
            }
            return false;
        }

        private void readAccess(int depth, int nest) {
            int protocol = protocol();
            made.ask(protocol);
            next();
            if (kind != '[' || nest >= DEEPEST_SUM) {
                fail();
            }
            next();
            int mark = made.itemCount;
            boolean alone = readSum(depth, nest + 1);
            int size = 1;
            if (kind == ':') {
                next();
                size = takeSize();
            }
            take(']');
            made.access(protocol, size, depth, alone ? mark : -1);
        }
    }

    /**
     * The BLOCKS of a filter, each with its SUMS as a row of items, and with its two ways.
     * While it is built a way is told by a label, whose place may come later.
     */
    private static final class Filter {
        private static final int ETHER = 0;
        private static final int IP = 1;
        private static final int IP6 = 2;
        private static final int ARP = 3;
        private static final int TCP = 4;
        private static final int UDP = 5;
        private static final int ICMP = 6;

        private static final int NEXT = -1;
        private static final int MATCH_LABEL = 0;
        private static final int NO_LABEL = 1;

        private static final int EITHER = 0;
        private static final int SOURCE = 1;
        private static final int TARGET = 2;

        // What an item does to the value at hand; how and number mean, for each:
        private static final int NUMBER = 0;     // 1 if it stands bare; the number
        private static final int LENGTH = 1;
        private static final int PUSH = 2;       // -; depth
        private static final int WITH_NUMBER = 3; // op; the number
        private static final int WITH_PUSHED = 4; // op; depth
        private static final int NEGATE = 5;
        private static final int READ_AT = 6;    // size; place
        private static final int READ_BEHIND = 7; // size; what is added to the value
        private static final int READ_IN_BODY = 8; // size; depth

        private static final int MOST_BLOCKS = 3000;
        private static final int MOST_ITEMS = 7000;
        private static final int MOST_LABELS = 5000;

        private final int[] kinds = new int[MOST_ITEMS];
        private final int[] hows = new int[MOST_ITEMS];
        private final int[] numbers = new int[MOST_ITEMS];
        private int itemCount;
        private final int[] from = new int[MOST_BLOCKS];
        private final int[] middle = new int[MOST_BLOCKS];
        private final int[] until = new int[MOST_BLOCKS];
        private final int[] ops = new int[MOST_BLOCKS];
        private final int[] yes = new int[MOST_BLOCKS];
        private final int[] no = new int[MOST_BLOCKS];
        private final boolean[] kept = new boolean[MOST_BLOCKS];
        private int blockCount;
        private int leftOut;
        private final int[] labels = new int[MOST_LABELS];
        private int labelCount;
        private final int[] asked = new int[6];
        private int askedCount;
        private final long[] pushed = new long[8];

        private Filter() {
        }

        private void clear() {
            itemCount = 0;
            blockCount = 0;
            leftOut = 0;
            labelCount = 2;
        }

        private int newLabel() {
            if (labelCount < MOST_LABELS) {
                labelCount++;
            }
            return labelCount - 1;
        }

        private void putLabelHere(int label) {
            if (label >= 0 && label < labelCount) {
                labels[label] = blockCount;
            }
        }

        /** A label goes where another one goes, which was made ahead of it. */
        private void joinLabel(int label, int other) {
            if (label >= 0 && label < labelCount) {
                labels[label] = -1 - other;
            }
        }

        private void item(int kind, int how, int number) {
            if (itemCount < MOST_ITEMS) {
                kinds[itemCount] = kind;
                hows[itemCount] = how;
                numbers[itemCount] = number;
                itemCount++;
            }
        }

        /** Ends a op b, whose left side was pushed at mark; an N alone needs no pushing. */
        private void joinSides(int op, int depth, int mark, boolean alone) {
            if (alone && itemCount > 0) {
                int number = numbers[itemCount - 1];
                itemCount = mark;
                item(WITH_NUMBER, op, number);
            } else {
                item(WITH_PUSHED, op, depth);
            }
        }

        private void hideNumber() {
            if (itemCount > 0) {
                hows[itemCount - 1] = 0;
            }
        }

        private void askNothing() {
            askedCount = 0;
        }

        private void ask(int protocol) {
            for (int i = 0; i < askedCount; i++) {
                if (asked[i] == protocol) {
                    return;
                }
            }
            if (protocol != ETHER && askedCount < asked.length) {
                asked[askedCount] = protocol;
                askedCount++;
            }
        }

        /** An ACCESS of the value at hand, or of the N that stands alone at mark. */
        private void access(int protocol, int size, int depth, int mark) {
            int base = protocol == ETHER ? 0 : 14;
            if (protocol >= TCP) {
                item(READ_IN_BODY, size, depth);
            } else if (mark >= 0 && mark < itemCount) {
                int place = numbers[mark] + base;
                itemCount = mark;
                item(READ_AT, size, place);
            } else {
                item(READ_BEHIND, size, base);
            }
        }

        private void test(int start, int half, int end, int op, int yesLabel, int noLabel) {
            if (blockCount >= MOST_BLOCKS) {
                return;
            }
            int b = blockCount;
            from[b] = start;
            middle[b] = half;
            until[b] = end;
            ops[b] = op;
            yes[b] = yesLabel;
            no[b] = noLabel;
            blockCount++;
        }

        /** The value that the items from start on make, against a number. */
        private void testNumber(int start, int op, int number, int yesLabel, int noLabel) {
            int half = itemCount;
            item(NUMBER, 1, number);
            test(start, half, itemCount, op, yesLabel, noLabel);
        }

        private void testRead(int place, int size, int number, int yesLabel, int noLabel) {
            int start = itemCount;
            item(READ_AT, size, place);
            item(NUMBER, 1, number);
            test(start, start + 1, start + 2, EQUAL, yesLabel, noLabel);
        }

        private void testType(int number, int yesLabel, int noLabel) {
            testRead(12, 2, number, yesLabel, noLabel);
        }

        private void testByte(int place, int number, int yesLabel, int noLabel) {
            testRead(place, 1, number, yesLabel, noLabel);
        }

        private void testFirstPart(int yesLabel, int noLabel) {
            int start = itemCount;
            item(READ_AT, 2, 20);
            item(WITH_NUMBER, AND, 8191);
            testNumber(start, EQUAL, 0, yesLabel, noLabel);
        }

        private void testLength(int op, int number, int yesLabel, int noLabel) {
            int start = itemCount;
            item(LENGTH, 0, 0);
            testNumber(start, op, number, yesLabel, noLabel);
        }

        private static int numberOf(int protocol) {
            switch (protocol) {
                case IP: return 2048;
                case IP6: return 34525;
                case ARP: return 2054;
                case TCP: return 6;
                case UDP: return 17;
                default: return 1;
            }
        }

        private void testProtocol(int protocol, int yesLabel, int noLabel) {
            int number = numberOf(protocol);
            if (protocol < TCP) {
                testType(number, yesLabel, noLabel);
                return;
            }
            int newer = protocol == ICMP ? noLabel : newLabel();
            testType(2048, NEXT, newer);
            testByte(23, number, yesLabel, newer);
            if (protocol != ICMP) {
                putLabelHere(newer);
                testType(34525, NEXT, noLabel);
                testByte(20, number, yesLabel, noLabel);
            }
        }

        private void testGuards(int noLabel) {
            for (int i = 0; i < askedCount; i++) {
                int protocol = asked[i];
                int number = numberOf(protocol);
                if (protocol < TCP) {
                    testType(number, NEXT, noLabel);
                } else {
                    testType(2048, NEXT, noLabel);
                    testByte(23, number, NEXT, noLabel);
                    testFirstPart(NEXT, noLabel);
                }
            }
        }

        /** Of a host (not masked) all bits of the address count. */
        private void testAddress(int side, int address, boolean masked, int mask, int yesLabel, int noLabel) {
            testType(2048, NEXT, noLabel);
            int other = side == EITHER ? newLabel() : noLabel;
            if (side != TARGET) {
                testAddressAt(26, address, masked, mask, yesLabel, other);
            }
            if (side == EITHER) {
                putLabelHere(other);
            }
            if (side != SOURCE) {
                testAddressAt(30, address, masked, mask, yesLabel, noLabel);
            }
        }

        private void testAddressAt(int place, int address, boolean masked, int mask, int yesLabel, int noLabel) {
            int start = itemCount;
            item(READ_AT, 4, place);
            if (masked) {
                item(WITH_NUMBER, AND, mask);
            }
            testNumber(start, EQUAL, address, yesLabel, noLabel);
        }

        /** Ports from low to high; the port low alone, if high is -1. */
        private void testPorts(int side, int low, int high, int yesLabel, int noLabel) {
            int newer = newLabel();
            int body = newLabel();
            testType(2048, NEXT, newer);
            testByte(23, 6, body, NEXT);
            testByte(23, 17, NEXT, newer);
            putLabelHere(body);
            testFirstPart(NEXT, newer);
            testSides(false, side, low, high, yesLabel, newer);
            putLabelHere(newer);
            int newerBody = newLabel();
            testType(34525, NEXT, noLabel);
            testByte(20, 6, newerBody, NEXT);
            testByte(20, 17, NEXT, noLabel);
            putLabelHere(newerBody);
            testSides(true, side, low, high, yesLabel, noLabel);
        }

        private void testSides(boolean newer, int side, int low, int high, int yesLabel, int noLabel) {
            int other = side == EITHER ? newLabel() : noLabel;
            if (side != TARGET) {
                testPort(newer ? 54 : 14, low, high, yesLabel, other);
            }
            if (side == EITHER) {
                putLabelHere(other);
            }
            if (side != SOURCE) {
                testPort(newer ? 56 : 16, low, high, yesLabel, noLabel);
            }
        }

        private void testPort(int place, int low, int high, int yesLabel, int noLabel) {
            int start = itemCount;
            portItems(place);
            if (high < 0) {
                testNumber(start, EQUAL, low, yesLabel, noLabel);
                return;
            }
            testNumber(start, NOT_BELOW, low, NEXT, noLabel);
            start = itemCount;
            portItems(place);
            testNumber(start, NOT_ABOVE, high, yesLabel, noLabel);
        }

        // Of the older kind (ip) what stands ahead of the ports is 4 times the lowest bits of byte 14 long.
        private void portItems(int place) {
            if (place >= 54) {
                item(READ_AT, 2, place);
                return;
            }
            item(READ_AT, 1, 14);
            item(WITH_NUMBER, AND, 15);
            item(WITH_NUMBER, LEFT, 2);
            item(READ_BEHIND, 2, place);
        }

        private void finish() {
            placeWays();
            for (int b = 0; b < blockCount; b++) {
                if (told(b)) {
                    yes[b] = shortened(b, true);
                    no[b] = shortened(b, false);
                }
            }
            leaveOut();
        }

        private void placeWays() {
            labels[MATCH_LABEL] = blockCount;
            labels[NO_LABEL] = blockCount + 1;
            for (int label = 2; label < labelCount; label++) {
                int other = -1 - labels[label];
                if (other >= 0 && other < label) {
                    labels[label] = labels[other];
                }
            }
            for (int b = 0; b < blockCount; b++) {
                yes[b] = placeOf(yes[b], b);
                no[b] = placeOf(no[b], b);
            }
        }

        private int placeOf(int way, int b) {
            return way < 0 || way >= labelCount ? b + 1 : labels[way];
        }

        /** Where a way of block b goes when it passes by all that b decides. */
        private int shortened(int b, boolean held) {
            int way = held ? yes[b] : no[b];
            for (int i = 0; i < blockCount && way < blockCount; i++) {
                if (!told(way) || !readsAlike(b, way)) {
                    return way;
                }
                boolean same = numbers[middle[b]] == numbers[middle[way]];
                if (!held && !same) {
                    return way;
                }
                way = held && same ? yes[way] : no[way];
            }
            return way;
        }

        /** Whether block b is READ(place, size) = number, both told by numbers. */
        private boolean told(int b) {
            int start = from[b];
            int half = middle[b];
            boolean right = ops[b] == EQUAL && until[b] - half == 1 && kinds[half] == NUMBER;
            if (half - start == 1) {
                return right && kinds[start] == READ_AT;
            }
            return right && half - start == 2 && kinds[start] == NUMBER && kinds[start + 1] == READ_BEHIND;
        }

        private boolean readsAlike(int b, int other) {
            return placeRead(b) == placeRead(other)
                && hows[middle[b] - 1] == hows[middle[other] - 1];
        }

        private int placeRead(int b) {
            int last = middle[b] - 1;
            return last == from[b] ? numbers[last] : numbers[last] + numbers[from[b]];
        }

        private void leaveOut() {
            for (int b = 0; b < blockCount; b++) {
                kept[b] = b == 0;
            }
            leftOut = 0;
            for (int b = 0; b < blockCount; b++) {
                if (!kept[b]) {
                    leftOut++;
                    continue;
                }
                if (yes[b] < blockCount) {
                    kept[yes[b]] = true;
                }
                if (no[b] < blockCount) {
                    kept[no[b]] = true;
                }
            }
        }

        /** Whether packet p MATCHES. */
        private boolean says(Packets packets, int p) {
            int b = 0;
            for (int i = 0; i <= blockCount && b < blockCount; i++) {
                long left = value(from[b], middle[b], packets, p);
                long right = left < 0 ? -1 : value(middle[b], until[b], packets, p);
                if (right < 0) {
                    return false;
                }
                b = holds(ops[b], false, left, right) ? yes[b] : no[b];
            }
            return b == blockCount;
        }

        /** What the items make of packet p, -1 if it does not MATCH whatever else there is. */
        private long value(int start, int end, Packets packets, int p) {
            long at = 0;
            for (int i = start; i < end && at >= 0; i++) {
                int how = hows[i];
                switch (kinds[i]) {
                    case NUMBER: at = numbers[i] & LOW32; break;
                    case LENGTH: at = packets.lengthOf(p); break;
                    case PUSH: pushed[numbers[i] & 7] = at; break;
                    case WITH_NUMBER: at = joined(how, at, numbers[i] & LOW32); break;
                    case WITH_PUSHED: at = joined(how, pushed[numbers[i] & 7], at); break;
                    case NEGATE: at = -at & LOW32; break;
                    case READ_AT: at = packets.read(p, numbers[i] & LOW32, how); break;
                    case READ_BEHIND: at = packets.read(p, at + numbers[i] & LOW32, how); break;
                    case READ_IN_BODY: at = readInBody(packets, p, at, how); break;
                    default: at = -1; break;
                }
            }
            return at;
        }

        private static long joined(int op, long x, long y) {
            return (op == DIVIDED || op == REST) && y == 0 ? -1 : worked(op, false, x, y);
        }

        private static long readInBody(Packets packets, int p, long place, int size) {
            long first = packets.read(p, 14, 1);
            return first < 0 ? -1 : packets.read(p, place + 14 + 4 * (first & 15) & LOW32, size);
        }
    }

    /** Makes a PROGRAM of a filter. */
    private static final class Coder {
        private static final int VALUE = 0;
        private static final int SECOND = 7;
        private static final int LENGTH_KEPT = 6;
        private static final int STACK_BASE = 10;
        private static final int MOVE = 0xbc;
        private static final int MOVE_NUMBER = 0xb4;
        private static final int JUMP = 5;
        private static final int LAST = 149;
        private static final int STORE = 123;
        private static final int FETCH = 121;

        private final int[] starts = new int[Filter.MOST_BLOCKS + 2];
        // The BLOCK to which each INSTRUCTION goes, -1 for those that don't go.
        private final int[] goals = new int[Program.MOST];
        private Filter filter;
        private Program made;
        private int length;

        private Coder(Filter read, Program program) {
            filter = read;
            made = program;
        }

        /** How many INSTRUCTIONS it has become; -1 if they would be too many. */
        private int code(Filter read, Program program) {
            filter = read;
            made = program;
            length = 0;
            put(0xbf, LENGTH_KEPT, 1, 0, 0);
            for (int b = 0; b < filter.blockCount; b++) {
                if (filter.kept[b]) {
                    starts[b] = length;
                    codeTest(b);
                    codeWays(b);
                }
            }
            starts[filter.blockCount] = length;
            put(MOVE_NUMBER, VALUE, 0, 0, 1);
            put(LAST, 0, 0, 0, 0);
            starts[filter.blockCount + 1] = length;
            put(MOVE_NUMBER, VALUE, 0, 0, 0);
            put(LAST, 0, 0, 0, 0);
            if (length > Program.MOST) {
                return -1;
            }
            placeGoals();
            made.length = length;
            return length;
        }

        private void put(int code, int d, int s, int off, int k) {
            if (length < Program.MOST) {
                int lower = (off & 0xFFFF) << 16 | s << 12 | d << 8 | code;
                made.row[length] = (long) k << 32 | lower & LOW32;
                goals[length] = -1;
            }
            length++;
        }

        private void putGoing(int code, int d, int s, int k, int goal) {
            put(code, d, s, 0, k);
            if (length <= Program.MOST) {
                goals[length - 1] = goal;
            }
        }

        private void placeGoals() {
            for (int i = 0; i < length; i++) {
                if (goals[i] >= 0) {
                    made.row[i] |= (starts[goals[i]] - i - 1 & 0xFFFFL) << 16;
                }
            }
        }

        private boolean rightIsNumber(int b) {
            int half = filter.middle[b];
            return filter.until[b] - half == 1
                && filter.kinds[half] == Filter.NUMBER && filter.hows[half] == 1;
        }

        private void codeTest(int b) {
            codeItems(filter.from[b], filter.middle[b]);
            if (!rightIsNumber(b)) {
                codePush(0);
                codeItems(filter.middle[b], filter.until[b]);
                codePull(0);
            }
        }

        private void codeWays(int b) {
            int yes = filter.yes[b];
            int no = filter.no[b];
            int next = nextKept(b);
            if (yes == no) {
                if (yes != next) {
                    putGoing(JUMP, 0, 0, 0, yes);
                }
                return;
            }
            boolean turned = yes == next;
            int op = turned ? otherOp(filter.ops[b]) : filter.ops[b];
            boolean number = rightIsNumber(b);
            putGoing(op << 4 | (number ? 6 : 14), VALUE, number ? 0 : SECOND,
                number ? filter.numbers[filter.middle[b]] : 0, turned ? no : yes);
            if (!turned && no != next) {
                putGoing(JUMP, 0, 0, 0, no);
            }
        }

        private int nextKept(int b) {
            int next = b + 1;
            while (next < filter.blockCount && !filter.kept[next]) {
                next++;
            }
            return next;
        }

        private void codeItems(int start, int end) {
            for (int i = start; i < end; i++) {
                codeItem(filter.kinds[i], filter.hows[i], filter.numbers[i]);
            }
        }

        private void codeItem(int kind, int how, int number) {
            switch (kind) {
                case Filter.NUMBER: put(MOVE_NUMBER, VALUE, 0, 0, number); break;
                case Filter.LENGTH: put(MOVE, VALUE, LENGTH_KEPT, 0, 0); break;
                case Filter.PUSH: codePush(number); break;
                case Filter.WITH_NUMBER: codeWithNumber(how, number); break;
                case Filter.WITH_PUSHED: codeWithPushed(how, number); break;
                case Filter.NEGATE: put(NEGATED << 4 | 4, VALUE, 0, 0, 0); break;
                case Filter.READ_AT: put(readCode(how), 0, 0, 0, number); break;
                case Filter.READ_BEHIND: put(readCode(how) + 32, 0, VALUE, 0, number); break;
                case Filter.READ_IN_BODY: codeReadInBody(how, number); break;
                default: break;
            }
        }

        private static int readCode(int size) {
            return size == 4 ? 32 : size == 2 ? 40 : 48;
        }

        private static int slot(int depth) {
            return -8 - 8 * depth;
        }

        private void codePush(int depth) {
            put(STORE, STACK_BASE, VALUE, slot(depth), 0);
        }

        private void codePull(int depth) {
            put(MOVE, SECOND, VALUE, 0, 0);
            put(FETCH, VALUE, STACK_BASE, slot(depth), 0);
        }

        private void codeWithNumber(int op, int number) {
            if ((op == DIVIDED || op == REST) && number == 0) {
                putGoing(JUMP, 0, 0, 0, filter.blockCount + 1);
            } else {
                put(op << 4 | 4, VALUE, 0, 0, number);
            }
        }

        private void codeWithPushed(int op, int depth) {
            codePull(depth);
            if (op == DIVIDED || op == REST) {
                putGoing(EQUAL << 4 | 6, SECOND, 0, 0, filter.blockCount + 1);
            }
            put(op << 4 | 12, VALUE, SECOND, 0, 0);
        }

        private void codeReadInBody(int size, int depth) {
            codePush(depth);
            put(readCode(1), 0, 0, 0, 14);
            put(AND << 4 | 4, VALUE, 0, 0, 15);
            put(LEFT << 4 | 4, VALUE, 0, 0, 2);
            put(FETCH, SECOND, STACK_BASE, slot(depth), 0);
            put(PLUS << 4 | 12, VALUE, SECOND, 0, 0);
            put(readCode(size) + 32, 0, VALUE, 0, 14);
        }
    }

    /** INSTRUCTIONS, and how they are run. */
    private static final class Program {
        private static final int MOST = 4000;
        private static final int MOST_STEPS = 10000;

        private static final int USES_D = 1;
        private static final int USES_S = 2;
        private static final int USES_OFF = 4;
        private static final int USES_K = 8;

        private static final int NARROW_OP = 4;
        private static final int WIDE_JUMP = 5;
        private static final int NARROW_JUMP = 6;
        private static final int WIDE_OP = 7;
        private static final int LAST = 149;

        private final long[] row = new long[MOST];
        private int length;

        private Program() {
        }

        /** How many it has become; -1 if the tape tells no PROGRAM. */
        private int takeTape(Tape tape) {
            if (tape.length == 0 || tape.length % 8 != 0) {
                return -1;
            }
            length = tape.length / 8;
            for (int i = 0; i < length; i++) {
                row[i] = tape.lowestFirst(8 * i, 8);
            }
            return length;
        }

        private long at(int i) {
            return i < 0 || i >= length ? 0 : row[i];
        }

        private static int codeOf(long instruction) {
            return (int) instruction & 255;
        }

        private static int dOf(long instruction) {
            return (int) instruction >> 8 & 15;
        }

        private static int sOf(long instruction) {
            return (int) instruction >> 12 & 15;
        }

        private static int offOf(long instruction) {
            return (short) (instruction >> 16);
        }

        private static int kOf(long instruction) {
            return (int) (instruction >> 32);
        }

        private static boolean isWide(int code) {
            return (code & 7) == WIDE_OP || (code & 7) == WIDE_JUMP;
        }

        private static boolean isOp(int code) {
            return (code & 7) == WIDE_OP || (code & 7) == NARROW_OP;
        }

        /** Of those that go, and the end. */
        private static boolean isJump(int code) {
            return (code & 7) == WIDE_JUMP || (code & 7) == NARROW_JUMP;
        }

        /** Of ops and jumps: whether y is S. */
        private static boolean hasS(int code) {
            return (code & 8) != 0;
        }

        private static boolean isLoad(int code) {
            return code == 97 || code == 105 || code == 113 || code == 121;
        }

        private static boolean isStore(int code) {
            return code == 98 || code == 99 || code == 106 || code == 107
                || code == 114 || code == 115 || code == 122 || code == 123;
        }

        private static boolean isRead(int code) {
            return code == 32 || code == 40 || code == 48 || code == 64 || code == 72 || code == 80;
        }

        /** Of READ, loading and storing: how many bytes. */
        private static int sizeOf(int code) {
            switch (code >> 3 & 3) {
                case 0: return 4;
                case 1: return 2;
                case 2: return 1;
                default: return 8;
            }
        }

        /** Which parts an INSTRUCTION with this CODE uses, -1 if there is no such CODE. */
        private static int partsOf(int code) {
            if (isOp(code)) {
                return partsOfOp(code);
            }
            if (isJump(code)) {
                return partsOfJump(code);
            }
            if (isLoad(code)) {
                return USES_D | USES_S | USES_OFF;
            }
            if (isStore(code)) {
                return USES_D | USES_OFF | ((code & 1) != 0 ? USES_S : USES_K);
            }
            if (isRead(code)) {
                return code < 64 ? USES_K : USES_S | USES_K;
            }
            return -1;
        }

        private static int partsOfOp(int code) {
            int op = code >> 4;
            if (op > SIGNED_RIGHT || op == NEGATED && hasS(code)) {
                return -1;
            }
            return op == NEGATED ? USES_D : hasS(code) ? USES_D | USES_S : USES_D | USES_K;
        }

        private static int partsOfJump(int code) {
            int op = code >> 4;
            if (code == LAST) {
                return 0;
            }
            if (op == 0) {
                return code == WIDE_JUMP ? USES_OFF : -1;
            }
            if (op == 8 || op == END_OP || op > SIGNED_NOT_ABOVE) {
                return -1;
            }
            return USES_D | USES_OFF | (hasS(code) ? USES_S : USES_K);
        }

        /** Whether there is such an INSTRUCTION. */
        private static boolean exists(long instruction) {
            int parts = partsOf(codeOf(instruction));
            int d = dOf(instruction);
            int s = sOf(instruction);
            return parts >= 0 && d <= 10 && s <= 10
                && ((parts & USES_D) != 0 || d == 0)
                && ((parts & USES_S) != 0 || s == 0)
                && ((parts & USES_OFF) != 0 || offOf(instruction) == 0)
                && ((parts & USES_K) != 0 || kOf(instruction) == 0);
        }

        private long perform(Machine machine, int p, int size) {
            machine.begin(11, p);
            machine.set(1, size);
            machine.set(10, STACK_BEHIND);
            for (int done = 0; !machine.over && done <= MOST_STEPS; done++) {
                if (done == MOST_STEPS) {
                    machine.stop(TOO_LONG);
                } else {
                    step(machine);
                    machine.stepOn(length);
                }
            }
            return machine.trap == 0 ? machine.get(0) : 0;
        }

        private void step(Machine machine) {
            long instruction = at(machine.place);
            int code = codeOf(instruction);
            if (!exists(instruction)) {
                machine.stop(MISSING);
            } else if (isOp(code)) {
                int d = dOf(instruction);
                machine.set(d, worked(code >> 4, isWide(code), machine.get(d), sideOf(instruction, machine)));
            } else if (code == LAST) {
                machine.over = true;
            } else if (isJump(code)) {
                long d = machine.get(dOf(instruction));
                if (holds(code >> 4, isWide(code), d, sideOf(instruction, machine))) {
                    machine.next = machine.place + 1L + offOf(instruction);
                }
            } else if (isRead(code)) {
                readPacket(instruction, machine);
            } else {
                useMemory(instruction, machine);
            }
        }

        /** y of an op or of one that goes; what is stored. */
        private static long sideOf(long instruction, Machine machine) {
            int code = codeOf(instruction);
            boolean inS = isStore(code) ? (code & 1) != 0 : hasS(code);
            return inS ? machine.get(sOf(instruction)) : kOf(instruction);
        }

        private static void readPacket(long instruction, Machine machine) {
            int code = codeOf(instruction);
            long added = code < 64 ? 0 : machine.get(sOf(instruction));
            long number = machine.readPacket(kOf(instruction) + added & LOW32, sizeOf(code));
            machine.set(0, number < 0 ? 0 : number);
            if (number < 0) {
                machine.over = true;
            }
        }

        private static void useMemory(long instruction, Machine machine) {
            int code = codeOf(instruction);
            boolean loads = isLoad(code);
            int base = loads ? sOf(instruction) : dOf(instruction);
            long place = machine.get(base) + offOf(instruction);
            if (!machine.inStack(place, sizeOf(code))) {
                machine.stop(NO_MEMORY);
            } else if (loads) {
                machine.set(dOf(instruction), machine.load8(place, sizeOf(code)));
            } else {
                machine.store(place, sizeOf(code), sideOf(instruction, machine));
            }
        }
    }

    /** What both machines have: REGISTERS, MEMORY, and how a run ended. */
    private static final class Machine {
        private static final int PACKET_FIRST = 65536;

        private final long[] registers = new long[32];
        private final byte[] stackRow = new byte[STACK_SIZE];
        private final Packets packets;
        private int packet;
        private int shown;
        private int trap;
        private int steps;
        private int place;
        private long next;
        private boolean over;

        private Machine(Packets all) {
            packets = all;
        }

        private void begin(int registerCount, int p) {
            packet = p;
            shown = registerCount;
            for (int i = 0; i < registers.length; i++) {
                registers[i] = 0;
            }
            for (int i = 0; i < stackRow.length; i++) {
                stackRow[i] = 0;
            }
            trap = 0;
            steps = 0;
            place = 0;
            next = 1;
            over = false;
        }

        private long get(int i) {
            return i < 0 || i >= registers.length ? 0 : registers[i];
        }

        private void set(int i, long value) {
            if (i >= 0 && i < registers.length) {
                registers[i] = value;
            }
        }

        private void stop(int why) {
            trap = why;
            over = true;
        }

        /** Ends a step: counts it, and goes to the next place, if there is one. */
        private void stepOn(int length) {
            if (trap != 0) {
                return;
            }
            if (!over && (next < 0 || next >= length)) {
                stop(ASTRAY);
                return;
            }
            steps++;
            if (!over) {
                place = (int) next;
                next = place + 1L;
            }
        }

        private long readPacket(long from, int size) {
            return packets.read(packet, from, size);
        }

        private boolean inStack(long from, int size) {
            return from >= STACK_FIRST && from <= STACK_BEHIND - size;
        }

        private boolean inPacket(long from, int size) {
            return from >= PACKET_FIRST && from <= PACKET_FIRST + packets.lengthOf(packet) - size;
        }

        private int byteAt(long from) {
            if (inStack(from, 1)) {
                return stackRow[(int) from - STACK_FIRST] & 255;
            }
            return inPacket(from, 1) ? packets.at(packet, from - PACKET_FIRST) : 0;
        }

        private long load8(long from, int size) {
            long number = 0;
            for (int k = size - 1; k >= 0; k--) {
                number = number << 8 | byteAt(from + k);
            }
            return number;
        }

        private void store(long from, int size, long number) {
            if (!inStack(from, size)) {
                return;
            }
            for (int k = 0; k < size; k++) {
                stackRow[(int) from - STACK_FIRST + k] = (byte) (number >>> 8 * k);
            }
        }
    }

    /** WORDS of the other machine, and how they are run. */
    private static final class ObjectCode {
        private static final int MOST = 60000;
        private static final int MOST_STEPS = 100000;

        private static final int LUI = 0x37;
        private static final int JAL = 0x6f;
        private static final int JALR = 0x67;
        private static final int BRANCH = 0x63;
        private static final int LOAD = 0x03;
        private static final int STORE = 0x23;
        private static final int OP_IMM = 0x13;
        private static final int OP = 0x33;
        private static final int OP_IMM_32 = 0x1b;
        private static final int OP_32 = 0x3b;
        private static final int ECALL = 0x73;

        private final int[] row = new int[MOST];
        private int length;

        private ObjectCode() {
        }

        private int takeTape(Tape tape) {
            if (tape.length == 0 || tape.length % 4 != 0) {
                return -1;
            }
            length = tape.length / 4;
            for (int i = 0; i < length; i++) {
                row[i] = (int) tape.lowestFirst(4 * i, 4);
            }
            return length;
        }

        private int at(int i) {
            return i < 0 || i >= length ? 0 : row[i];
        }

        private long perform(Machine machine, int p, int size) {
            machine.begin(32, p);
            machine.set(8, Machine.PACKET_FIRST);
            machine.set(9, size);
            machine.set(11, size);
            machine.set(22, STACK_BEHIND);
            for (int done = 0; !machine.over && done <= MOST_STEPS; done++) {
                if (done == MOST_STEPS) {
                    machine.stop(TOO_LONG);
                } else {
                    step(machine);
                    machine.stepOn(length);
                }
            }
            return machine.trap == 0 ? machine.get(10) : 0;
        }

        private static int highPart(int word) {
            return word >>> 25;
        }

        private static int middlePart(int word) {
            return word >> 12 & 7;
        }

        private static boolean exists(int word) {
            int middle = middlePart(word);
            int high = highPart(word);
            switch (word & 127) {
                case LUI: case JAL: return true;
                case JALR: return middle == 0;
                case BRANCH: return middle != 2 && middle != 3;
                case LOAD: return middle != 7;
                case STORE: return middle <= 3;
                case OP_IMM: return middle == 1 ? high >> 1 == 0 : middle != 5 || high >> 1 == 0 || high >> 1 == 16;
                case OP: return high == 0 || high == 1 && (middle == 0 || middle == 5 || middle == 7)
                    || high == 32 && (middle == 0 || middle == 5);
                case OP_IMM_32: return middle == 0 || middle == 1 && high == 0
                    || middle == 5 && (high == 0 || high == 32);
                case OP_32: return high == 0 && (middle == 0 || middle == 1 || middle == 5)
                    || high == 1 && (middle == 0 || middle == 5 || middle == 7)
                    || high == 32 && (middle == 0 || middle == 5);
                default: return word == ECALL;
            }
        }

        private void step(Machine machine) {
            int word = at(machine.place);
            if (!exists(word)) {
                machine.stop(MISSING);
                return;
            }
            int target = word >> 7 & 31;
            long first = machine.get(word >> 15 & 31);
            long second = machine.get(word >> 20 & 31);
            long number = word >> 20;
            switch (word & 127) {
                case LUI: keep(machine, target, word & 0xFFFFF000); break;
                case JAL: goLinked(machine, target, 4L * machine.place + farNumber(word)); break;
                case JALR: goLinked(machine, target, first + number & -2L); break;
                case BRANCH:
                    if (branches(middlePart(word), first, second)) {
                        go(machine, 4L * machine.place + branchNumber(word));
                    }
                    break;
                case LOAD: fetch(machine, target, first + number, middlePart(word)); break;
                case STORE: keepInMemory(machine, first + storeNumber(word), middlePart(word), second); break;
                case OP_IMM: keep(machine, target, made(middlePart(word), shiftHigh(word), first, number)); break;
                case OP: keep(machine, target, made(middlePart(word), highPart(word), first, second)); break;
                case OP_IMM_32: keep(machine, target, made32(middlePart(word), shiftHigh(word), first, number)); break;
                case OP_32: keep(machine, target, made32(middlePart(word), highPart(word), first, second)); break;
                default: machine.over = true; break;
            }
        }

        // Only in shifts by a number do the highest bits say which op it is.
        private static int shiftHigh(int word) {
            return middlePart(word) == 5 ? highPart(word) & 32 : 0;
        }

        private static int farNumber(int word) {
            return word >> 31 << 20 | word & 0xFF000 | (word >> 20 & 1) << 11 | (word >> 21 & 1023) << 1;
        }

        private static int branchNumber(int word) {
            return word >> 31 << 12 | (word >> 7 & 1) << 11 | (word >> 25 & 63) << 5 | (word >> 8 & 15) << 1;
        }

        private static int storeNumber(int word) {
            return word >> 25 << 5 | word >> 7 & 31;
        }

        private static void keep(Machine machine, int target, long value) {
            if (target != 0) {
                machine.set(target, value);
            }
        }

        private static void go(Machine machine, long place) {
            machine.next = place < 0 || (place & 3) != 0 ? -1 : place >> 2;
        }

        private static void goLinked(Machine machine, int target, long place) {
            keep(machine, target, 4L * machine.place + 4);
            go(machine, place);
        }

        private static boolean branches(int middle, long x, long y) {
            switch (middle) {
                case 0: return x == y;
                case 1: return x != y;
                case 4: return x < y;
                case 5: return x >= y;
                case 6: return below(x, y);
                default: return !below(x, y);
            }
        }

        private static void fetch(Machine machine, int target, long place, int middle) {
            int size = 1 << (middle & 3);
            if (!machine.inStack(place, size) && !machine.inPacket(place, size)) {
                machine.stop(NO_MEMORY);
                return;
            }
            long number = machine.load8(place, size);
            switch (middle) {
                case 0: number = (byte) number; break;
                case 1: number = (short) number; break;
                case 2: number = (int) number; break;
                default: break;
            }
            keep(machine, target, number);
        }

        private static void keepInMemory(Machine machine, long place, int middle, long number) {
            int size = 1 << (middle & 3);
            if (machine.inStack(place, size)) {
                machine.store(place, size, number);
            } else {
                machine.stop(NO_MEMORY);
            }
        }

        private static long made(int middle, int high, long x, long y) {
            if (high == 1) {
                return middle == 0 ? x * y : middle == 5 ? divided(x, y) : x - (y == 0 ? 0 : quotient(x, y) * y);
            }
            int by = (int) (y & 63);
            switch (middle) {
                case 0: return high == 32 ? x - y : x + y;
                case 1: return x << by;
                case 2: return x < y ? 1 : 0;
                case 3: return below(x, y) ? 1 : 0;
                case 4: return x ^ y;
                case 5: return high == 32 ? x >> by : x >>> by;
                case 6: return x | y;
                default: return x & y;
            }
        }

        private static long divided(long x, long y) {
            return y == 0 ? -1 : quotient(x, y);
        }

        private static long made32(int middle, int high, long first, long second) {
            if (high == 1) {
                return (int) made(middle, high, first & LOW32, second & LOW32);
            }
            int x = (int) first;
            int by = (int) second & 31;
            switch (middle) {
                case 0: return high == 32 ? x - (int) second : x + (int) second;
                case 1: return x << by;
                default: return high == 32 ? x >> by : x >>> by;
            }
        }
    }

    /** Makes OBJECT of an ACCEPTED PROGRAM: a first time to learn the places, then for good. */
    private static final class Translator {
        private static final int T = 5;
        private static final int U = 6;
        private static final int V = 7;
        private static final int PACKET_AT = 8;
        private static final int PACKET_SIZE = 9;
        private static final int ANSWER = 10;
        private static final int MUL_HIGH = 1;
        private static final int SUB_HIGH = 32;

        // How each op of 0 to 12 is told in a WORD of OP; 3 is the one that is used within it.
        private static final int[] HIGHS = {0, 32, 1, 1, 0, 0, 0, 0, 0, 1, 0, 0, 32};
        private static final int[] MIDDLES = {0, 0, 0, 5, 6, 7, 1, 5, 0, 7, 4, 0, 5};

        private final int[] starts = new int[Program.MOST + 1];
        private final ObjectCode made;
        private Program source;
        private boolean writes;
        private int length;

        private Translator(Program program, ObjectCode object) {
            source = program;
            made = object;
        }

        /** How many WORDS it has become; -1 if they would be too many. */
        private int turn(Program program) {
            source = program;
            writes = false;
            turnAll();
            if (length > ObjectCode.MOST) {
                return -1;
            }
            writes = true;
            turnAll();
            made.length = length;
            return length;
        }

        private void turnAll() {
            length = 0;
            for (int i = 0; i < source.length; i++) {
                starts[i] = length;
                turnOne(i);
            }
        }

        private void turnOne(int i) {
            long instruction = source.at(i);
            int code = Program.codeOf(instruction);
            if (Program.isOp(code)) {
                turnOp(instruction);
            } else if (code == Program.LAST) {
                put(ObjectCode.ECALL);
            } else if (Program.isJump(code)) {
                turnJump(instruction, i);
            } else if (Program.isRead(code)) {
                turnRead(instruction);
            } else {
                turnMemory(instruction);
            }
        }

        private void put(int word) {
            if (writes && length < ObjectCode.MOST) {
                made.row[length] = word;
            }
            length++;
        }

        private static int placeOf(int register) {
            return register < 6 ? 10 + register : 12 + register;
        }

        private void putOp(int kind, int high, int middle, int target, int first, int second) {
            put(high << 25 | second << 20 | first << 15 | middle << 12 | target << 7 | kind);
        }

        private void putImm(int kind, int middle, int target, int first, int number) {
            put(number << 20 | first << 15 | middle << 12 | target << 7 | kind);
        }

        private void putAdd(int target, int first, int number) {
            put(number << 20 | first << 15 | target << 7 | ObjectCode.OP_IMM);
        }

        private void putBranch(int middle, int first, int second, int by) {
            put(second << 20 | first << 15 | middle << 12 | by << 7 | ObjectCode.BRANCH);
        }

        private void putStore(int middle, int base, int second) {
            put(second << 20 | base << 15 | middle << 12 | ObjectCode.STORE);
        }

        private void putGoing(int by) {
            int told = by >> 20 & 1;
            put(told << 31 | (by >> 1 & 1023) << 21 | (by >> 11 & 1) << 20 | by & 0xFF000 | ObjectCode.JAL);
        }

        private void putNumber(int target, int k) {
            if (k >= -2048 && k <= 2047) {
                put(k << 20 | target << 7 | ObjectCode.OP_IMM);
                return;
            }
            put(k + 2048 & 0xFFFFF000 | target << 7 | ObjectCode.LUI);
            put(k << 20 | target << 15 | target << 7 | ObjectCode.OP_IMM_32);
        }

        private void putCut(int target) {
            putImm(ObjectCode.OP_IMM, 1, target, target, 32);
            putImm(ObjectCode.OP_IMM, 5, target, target, 32);
        }

        /** Where y is, which is S, or K, that is made first. */
        private int putSide(long instruction) {
            if (Program.hasS(Program.codeOf(instruction))) {
                return placeOf(Program.sOf(instruction));
            }
            putNumber(T, Program.kOf(instruction));
            return T;
        }

        private void turnOp(long instruction) {
            int code = Program.codeOf(instruction);
            int op = code >> 4;
            int d = placeOf(Program.dOf(instruction));
            boolean wide = Program.isWide(code);
            if (op == TAKEN && !Program.hasS(code)) {
                putNumber(d, Program.kOf(instruction));
            } else if (op == TAKEN) {
                putAdd(d, placeOf(Program.sOf(instruction)), 0);
            } else if (op == NEGATED) {
                putOp(wide ? ObjectCode.OP : ObjectCode.OP_32, SUB_HIGH, 0, d, 0, d);
            } else if (op == DIVIDED) {
                turnDivision(wide, d, putSide(instruction));
            } else {
                int y = putSide(instruction);
                boolean plain = wide || op == OR || op == AND || op == XOR;
                putOp(plain ? ObjectCode.OP : ObjectCode.OP_32, HIGHS[op], MIDDLES[op], d, d, y);
            }
            if (!wide) {
                putCut(d);
            }
        }

        private void turnDivision(boolean wide, int d, int side) {
            int y = side;
            if (!wide) {
                putImm(ObjectCode.OP_IMM_32, 0, U, side, 0);
                y = U;
            }
            putBranch(0, y, 0, 12);
            putOp(wide ? ObjectCode.OP : ObjectCode.OP_32, MUL_HIGH, 5, d, d, y);
            putGoing(8);
            putAdd(d, 0, 0);
        }

        private void turnJump(long instruction, int i) {
            int code = Program.codeOf(instruction);
            if (code != Program.WIDE_JUMP) {
                int x = placeOf(Program.dOf(instruction));
                int y = putSide(instruction);
                if (!Program.isWide(code)) {
                    putImm(ObjectCode.OP_IMM_32, 0, U, x, 0);
                    putImm(ObjectCode.OP_IMM_32, 0, V, y, 0);
                    x = U;
                    y = V;
                }
                putPassing(code >> 4, x, y);
            }
            int goal = i + 1 + Program.offOf(instruction);
            putGoing(goal < 0 || goal >= starts.length ? 0 : 4 * (starts[goal] - length));
        }

        /** A branch over the next WORD, if x op y does not hold. */
        private void putPassing(int op, int x, int y) {
            switch (op) {
                case SHARING:
                    putOp(ObjectCode.OP, 0, 7, U, x, y);
                    putBranch(0, U, 0, 8);
                    break;
                case EQUAL: putBranch(1, x, y, 8); break;
                case UNEQUAL: putBranch(0, x, y, 8); break;
                case ABOVE: putBranch(7, y, x, 8); break;
                case NOT_BELOW: putBranch(6, x, y, 8); break;
                case BELOW: putBranch(7, x, y, 8); break;
                case NOT_ABOVE: putBranch(6, y, x, 8); break;
                case SIGNED_ABOVE: putBranch(5, y, x, 8); break;
                case SIGNED_NOT_BELOW: putBranch(4, x, y, 8); break;
                case SIGNED_BELOW: putBranch(5, x, y, 8); break;
                default: putBranch(4, y, x, 8); break;
            }
        }

        private void turnMemory(long instruction) {
            int code = Program.codeOf(instruction);
            boolean loads = Program.isLoad(code);
            int size = Program.sizeOf(code);
            int base = loads ? Program.sOf(instruction) : Program.dOf(instruction);
            int kind = size == 8 ? 3 : size == 4 ? 2 : size == 2 ? 1 : 0;
            putNumber(T, Program.offOf(instruction));
            putOp(ObjectCode.OP, 0, 0, T, T, placeOf(base));
            if (loads) {
                putImm(ObjectCode.LOAD, size == 8 ? 3 : kind + 4, placeOf(Program.dOf(instruction)), T, 0);
            } else if ((code & 1) != 0) {
                putStore(kind, T, placeOf(Program.sOf(instruction)));
            } else {
                putNumber(U, Program.kOf(instruction));
                putStore(kind, T, U);
            }
        }

        private void turnRead(long instruction) {
            int code = Program.codeOf(instruction);
            int size = Program.sizeOf(code);
            putNumber(T, Program.kOf(instruction));
            if (code >= 64) {
                putOp(ObjectCode.OP_32, 0, 0, T, T, placeOf(Program.sOf(instruction)));
            }
            putCut(T);
            putAdd(U, T, size);
            putBranch(7, PACKET_SIZE, U, 12);
            putAdd(ANSWER, 0, 0);
            put(ObjectCode.ECALL);
            putOp(ObjectCode.OP, 0, 0, T, T, PACKET_AT);
            putImm(ObjectCode.LOAD, 4, ANSWER, T, 0);
            for (int k = 1; k < size; k++) {
                putImm(ObjectCode.OP_IMM, 1, ANSWER, ANSWER, 8);
                putImm(ObjectCode.LOAD, 4, U, T, k);
                putOp(ObjectCode.OP, 0, 6, ANSWER, ANSWER, U);
            }
        }
    }

    /** What is known of one REGISTER. */
    private static final class Fact {
        private static final int NOT_SET = 0;
        private static final int NUMBER = 1;
        private static final int POINTER = 2;

        private int kind;
        private long low;
        private long high;
        // The BITS that are KNOWN, and those of them that are 1.
        private long sure;
        private long ones;

        private Fact() {
        }

        private void lose() {
            kind = NOT_SET;
            low = 0;
            high = 0;
            sure = 0;
            ones = 0;
        }

        private void copy(Fact other) {
            kind = other.kind;
            low = other.low;
            high = other.high;
            sure = other.sure;
            ones = other.ones;
        }

        private void setExact(long number) {
            setRange(number, number);
            sure = -1;
            ones = number;
        }

        private void setRange(long least, long most) {
            kind = NUMBER;
            low = least;
            high = most;
            sure = 0;
            ones = 0;
        }

        /** What so many bytes can tell. */
        private void setBytes(int size) {
            if (size >= 8) {
                setRange(0, -1);
                return;
            }
            setRange(0, (1L << 8 * size) - 1);
            sure = -1L << 8 * size;
        }

        private boolean isExact() {
            return low == high;
        }

        private void settle() {
            if (low == high) {
                sure = -1;
                ones = low;
            } else if (sure == -1) {
                low = ones;
                high = ones;
            }
        }

        private void cut() {
            if (below(LOW32, high)) {
                low = 0;
                high = LOW32;
            }
            sure |= ~LOW32;
            ones &= LOW32;
            settle();
        }

        /** Becomes what is known of it op y; changes y, too. */
        private void work(int op, boolean wide, Fact y) {
            if (!wide) {
                cut();
                y.cut();
            }
            if (op == TAKEN) {
                copy(y);
            } else if (low == high && (op == NEGATED || y.low == y.high)) {
                low = worked(op, wide, low, y.low);
                high = low;
            } else {
                workBits(op, wide, y);
                workRange(op, wide, y);
            }
            settle();
            if (!wide) {
                cut();
            }
        }

        private void workBits(int op, boolean wide, Fact y) {
            long xZeros = sure & ~ones;
            long yZeros = y.sure & ~y.ones;
            switch (op) {
                case PLUS: addBits(y); break;
                case MINUS: takeBits(y); break;
                case OR:
                    ones |= y.ones;
                    sure = ones | xZeros & yZeros;
                    break;
                case AND:
                    ones &= y.ones;
                    sure = ones | xZeros | yZeros;
                    break;
                case XOR:
                    sure &= y.sure;
                    ones = (ones ^ y.ones) & sure;
                    break;
                default:
                    shiftBits(op, wide, y);
                    break;
            }
        }

        // With all unknown bits 0, and with all of them 1: where the two differ, a carry is unknown, too.
        private void addBits(Fact y) {
            long least = ones + y.ones;
            long most = least + ~sure + ~y.sure;
            sure = ~(least ^ most | ~sure | ~y.sure);
            ones = least & sure;
        }

        private void takeBits(Fact y) {
            long level = ones - y.ones;
            long most = level + ~sure;
            long least = level - ~y.sure;
            sure = ~(most ^ least | ~sure | ~y.sure);
            ones = level & sure;
        }

        private void shiftBits(int op, boolean wide, Fact y) {
            boolean left = op == LEFT;
            boolean right = op == RIGHT || op == SIGNED_RIGHT && isUnsigned(wide);
            if (!left && !right || !y.isExact()) {
                sure = 0;
                ones = 0;
                return;
            }
            int by = (int) (y.low & (wide ? 63 : 31));
            if (left) {
                sure = ~(~sure << by);
                ones = ones << by;
            } else {
                sure = ~(~sure >>> by);
                ones = ones >>> by;
            }
        }

        private boolean isUnsigned(boolean wide) {
            return wide ? high >= 0 : high >= 0 && high <= LOW32 >>> 1;
        }

        private void workRange(int op, boolean wide, Fact y) {
            int by = (int) (y.low & (wide ? 63 : 31));
            boolean exact = y.low == y.high;
            switch (op) {
                case PLUS: keepRange(low + y.low, high + y.high, !below(high + y.high, high)); break;
                case MINUS: keepRange(low - y.high, high - y.low, !below(low, y.high)); break;
                case TIMES:
                    keepRange(low * y.low, high * y.high, y.high == 0 || !below(quotient(-1, y.high), high));
                    break;
                case DIVIDED:
                    keepRange(y.low == 0 ? 0 : quotient(low, y.high), y.low == 0 ? high : quotient(high, y.low), true);
                    break;
                case REST: keepRange(0, y.low == 0 ? high : lesser(high, y.high - 1), true); break;
                case AND: keepRange(0, lesser(high, y.high), true); break;
                case OR: keepRange(greater(low, y.low), filled(high | y.high), true); break;
                case XOR: keepRange(0, filled(high | y.high), true); break;
                case LEFT:
                    keepRange(low << by, high << by, exact && (by == 0 || high >>> (64 - by) == 0));
                    break;
                case RIGHT: case SIGNED_RIGHT:
                    boolean plain = op == RIGHT || isUnsigned(wide);
                    keepRange(exact ? low >>> by : 0, exact ? high >>> by : high, plain);
                    break;
                default: keepRange(0, -1, true); break;
            }
        }

        /** ANY's, if it does not fit. */
        private void keepRange(long least, long most, boolean fits) {
            low = fits ? least : 0;
            high = fits ? most : -1;
        }

        /** 1 less than the least power of 2 above the number. */
        private static long filled(long number) {
            long full = number;
            for (int by = 1; by < 64; by *= 2) {
                full |= full >>> by;
            }
            return full;
        }

        /** Becomes what is known where it op k holds; false, if that can't be. */
        private boolean narrow(int op, long k) {
            boolean can = true;
            switch (op) {
                case EQUAL:
                    can = !below(k, low) && !below(high, k);
                    low = k;
                    high = k;
                    break;
                case UNEQUAL: can = narrowUnequal(k); break;
                case ABOVE:
                    can = k != -1;
                    low = greater(low, k + 1);
                    break;
                case NOT_BELOW: low = greater(low, k); break;
                case BELOW:
                    can = k != 0;
                    high = lesser(high, k - 1);
                    break;
                case NOT_ABOVE: high = lesser(high, k); break;
                default: break;
            }
            if (!can || below(high, low)) {
                return false;
            }
            settle();
            return true;
        }

        private boolean narrowUnequal(long k) {
            if (low == k && high == k) {
                return false;
            }
            if (low == k) {
                low++;
            } else if (high == k) {
                high--;
            }
            return true;
        }
    }

    /** Looks a PROGRAM through ahead of running, and keeps what was known ahead of each INSTRUCTION. */
    private static final class Inspector {
        private static final int REGISTERS = 11;
        private static final int STACK_ASKED = 11;
        private static final int FEWEST_ROWS = 64;

        private static final int OFFENCE_LOST = 4;
        private static final int OFFENCE_BASE = 5;
        private static final int OFFENCE_POINTER = 6;
        private static final int OFFENCE_MEMORY = 7;

        // Eleven cells for each INSTRUCTION.
        private byte[] kinds = new byte[0];
        private long[] lows = new long[0];
        private long[] highs = new long[0];
        private long[] sures = new long[0];
        private long[] oneBits = new long[0];
        // For each INSTRUCTION the STACK bytes that are SET, as bits, and whether anything comes there.
        private long[] sets = new long[0];
        private boolean[] reached = new boolean[0];
        private final Fact[] now = new Fact[REGISTERS];
        private final Fact side = new Fact();
        private final Fact place = new Fact();
        private final Fact former = new Fact();
        private long nowSet;
        private Program program;
        private int lastTold = -1;

        private Inspector(Program first) {
            program = first;
            for (int r = 0; r < REGISTERS; r++) {
                now[r] = new Fact();
            }
        }

        /** 0 if it is ACCEPTED, else the INSTRUCTION and its OFFENCE; -1 if there is nothing. */
        private int look(Program looked) {
            program = looked;
            lastTold = -1;
            if (program.length == 0) {
                return -1;
            }
            int unfit = firstUnfit();
            if (unfit != 0) {
                return unfit;
            }
            makeRoom();
            begin();
            for (int i = 0; i < program.length; i++) {
                lastTold = i;
                if (reached[i]) {
                    bring(i);
                    int offence = offenceOf(program.at(i));
                    if (offence != 0) {
                        return 16 * i + offence;
                    }
                    pass(i, program.at(i));
                }
            }
            return 0;
        }

        private long tell(int i, int r, int what) {
            boolean there = i >= 0 && i <= lastTold && reached[i] && r >= 0 && r <= STACK_ASKED;
            if (!there) {
                return what == 0 ? -1 : 0;
            }
            if (r == STACK_ASKED) {
                return what < 0 || what >= STACK_SIZE ? 0 : sets[i] >>> what & 1;
            }
            int cell = i * REGISTERS + r;
            switch (what) {
                case 0: return kinds[cell];
                case 1: return lows[cell];
                case 2: return highs[cell];
                case 3: return sures[cell];
                case 4: return oneBits[cell];
                default: return 0;
            }
        }

        private int firstUnfit() {
            for (int i = 0; i < program.length; i++) {
                long instruction = program.at(i);
                if (!Program.exists(instruction)) {
                    return 16 * i + MISSING;
                }
                if (goesAstray(i, instruction)) {
                    return 16 * i + ASTRAY;
                }
            }
            return 0;
        }

        private boolean goesAstray(int i, long instruction) {
            int code = Program.codeOf(instruction);
            if (code == Program.LAST) {
                return false;
            }
            int goal = Program.isJump(code) ? i + 1 + Program.offOf(instruction) : i + 1;
            return i == program.length - 1 || goal <= i || goal >= program.length;
        }

        private void makeRoom() {
            if (reached.length >= program.length) {
                return;
            }
            int rows = FEWEST_ROWS;
            while (rows < program.length && rows < Program.MOST) {
                rows *= 2;
            }
            rows = rows > Program.MOST ? Program.MOST : rows;
            kinds = new byte[rows * REGISTERS];
            lows = new long[rows * REGISTERS];
            highs = new long[rows * REGISTERS];
            sures = new long[rows * REGISTERS];
            oneBits = new long[rows * REGISTERS];
            sets = new long[rows];
            reached = new boolean[rows];
        }

        private void begin() {
            for (int i = 0; i < program.length; i++) {
                reached[i] = false;
            }
            for (int r = 0; r < REGISTERS; r++) {
                now[r].lose();
            }
            now[1].setRange(0, 256);
            now[10].setExact(0);
            now[10].kind = Fact.POINTER;
            nowSet = 0;
            arrive(0);
        }

        private void bring(int i) {
            for (int r = 0; r < REGISTERS; r++) {
                int cell = i * REGISTERS + r;
                now[r].kind = kinds[cell];
                now[r].low = lows[cell];
                now[r].high = highs[cell];
                now[r].sure = sures[cell];
                now[r].ones = oneBits[cell];
            }
            nowSet = sets[i];
        }

        /** Joins what is known now to what is known ahead of INSTRUCTION i. */
        private void arrive(int i) {
            if (i < 0 || i >= program.length) {
                return;
            }
            for (int r = 0; r < REGISTERS; r++) {
                int cell = i * REGISTERS + r;
                Fact fact = now[r];
                if (!reached[i]) {
                    put(cell, fact.kind, fact.low, fact.high, fact.sure, fact.ones);
                } else if (kinds[cell] != fact.kind || fact.kind == Fact.NOT_SET) {
                    put(cell, Fact.NOT_SET, 0, 0, 0, 0);
                } else {
                    long same = sures[cell] & fact.sure & ~(oneBits[cell] ^ fact.ones);
                    put(cell, fact.kind, lesser(lows[cell], fact.low), greater(highs[cell], fact.high),
                        same, fact.ones & same);
                }
            }
            sets[i] = reached[i] ? sets[i] & nowSet : nowSet;
            reached[i] = true;
        }

        private void put(int cell, int kind, long low, long high, long sure, long ones) {
            kinds[cell] = (byte) kind;
            lows[cell] = low;
            highs[cell] = high;
            sures[cell] = sure;
            oneBits[cell] = ones;
        }

        private boolean isLost(int r) {
            return now[r].kind == Fact.NOT_SET;
        }

        private boolean isPointer(int r) {
            return now[r].kind == Fact.POINTER;
        }

        private int offenceOf(long instruction) {
            int code = Program.codeOf(instruction);
            int d = Program.dOf(instruction);
            int s = Program.sOf(instruction);
            if (Program.isOp(code)) {
                return offenceOfOp(code, d, s);
            }
            if (code == Program.LAST) {
                return offenceOfUse(0, 0);
            }
            if (Program.isJump(code)) {
                return code == Program.WIDE_JUMP ? 0 : offenceOfUse(d, Program.hasS(code) ? s : d);
            }
            if (Program.isRead(code)) {
                return code < 64 ? 0 : offenceOfUse(s, s);
            }
            return offenceOfMemory(instruction, Program.isLoad(code) ? s : d);
        }

        /** Of two REGISTERS that must be NUMBERS. */
        private int offenceOfUse(int one, int other) {
            if (isLost(one) || isLost(other)) {
                return OFFENCE_LOST;
            }
            return isPointer(one) || isPointer(other) ? OFFENCE_POINTER : 0;
        }

        private int offenceOfOp(int code, int d, int s) {
            int op = code >> 4;
            boolean wide = Program.isWide(code);
            boolean usesD = op != TAKEN;
            boolean usesS = Program.hasS(code);
            if (usesD && isLost(d) || usesS && isLost(s)) {
                return OFFENCE_LOST;
            }
            if (d == 10) {
                return OFFENCE_BASE;
            }
            boolean dMayPoint = wide && (op == PLUS || op == MINUS);
            boolean sMayPoint = wide && op == TAKEN;
            boolean wrong = usesD && isPointer(d) && !dMayPoint || usesS && isPointer(s) && !sMayPoint;
            return wrong ? OFFENCE_POINTER : 0;
        }

        private int offenceOfMemory(long instruction, int base) {
            int code = Program.codeOf(instruction);
            int s = Program.sOf(instruction);
            boolean loads = Program.isLoad(code);
            boolean storesS = !loads && (code & 1) != 0;
            if (isLost(base) || storesS && isLost(s)) {
                return OFFENCE_LOST;
            }
            if (loads && Program.dOf(instruction) == 10) {
                return OFFENCE_BASE;
            }
            if (storesS && isPointer(s)) {
                return OFFENCE_POINTER;
            }
            place.copy(now[base]);
            side.setExact(Program.offOf(instruction));
            place.work(PLUS, true, side);
            int size = Program.sizeOf(code);
            boolean outside = below(place.low, -STACK_SIZE) || below(-size, place.high);
            boolean uneven = (place.sure & ~place.ones & size - 1) != size - 1;
            boolean unset = loads && !outside && (bytesFrom(size) & ~nowSet) != 0;
            return !isPointer(base) || outside || uneven || unset ? OFFENCE_MEMORY : 0;
        }

        /** The STACK bytes that a size from the place on may be, as bits. */
        private long bytesFrom(int size) {
            int first = (int) place.low + STACK_SIZE;
            int behind = (int) place.high + STACK_SIZE + size;
            long all = behind - first >= 64 ? -1 : (1L << behind - first) - 1;
            return all << first;
        }

        private void pass(int i, long instruction) {
            int code = Program.codeOf(instruction);
            int d = Program.dOf(instruction);
            if (code == Program.LAST) {
                return;
            }
            if (Program.isJump(code)) {
                passJump(i, instruction);
                return;
            }
            if (Program.isOp(code)) {
                bringSide(instruction);
                now[d].work(code >> 4, Program.isWide(code), side);
            } else if (Program.isLoad(code)) {
                now[d].setBytes(Program.sizeOf(code));
            } else if (Program.isStore(code)) {
                nowSet |= place.isExact() ? bytesFrom(Program.sizeOf(code)) : 0;
            } else {
                now[0].setBytes(Program.sizeOf(code));
                for (int r = 1; r <= 5; r++) {
                    now[r].lose();
                }
            }
            arrive(i + 1);
        }

        private void bringSide(long instruction) {
            if (Program.hasS(Program.codeOf(instruction))) {
                side.copy(now[Program.sOf(instruction)]);
            } else {
                side.setExact(Program.kOf(instruction));
            }
        }

        private void passJump(int i, long instruction) {
            int code = Program.codeOf(instruction);
            int goal = i + 1 + Program.offOf(instruction);
            int op = code >> 4;
            if (op == 0) {
                arrive(goal);
                return;
            }
            bringSide(instruction);
            boolean narrows = op == EQUAL || op == ABOVE || op == NOT_BELOW
                || op == UNEQUAL || op == BELOW || op == NOT_ABOVE;
            if (!narrows || !Program.isWide(code) || !side.isExact()) {
                arrive(goal);
                arrive(i + 1);
                return;
            }
            Fact fact = now[Program.dOf(instruction)];
            former.copy(fact);
            if (fact.narrow(op, side.low)) {
                arrive(goal);
            }
            fact.copy(former);
            if (fact.narrow(otherOp(op), side.low)) {
                arrive(i + 1);
            }
        }
    }
}
