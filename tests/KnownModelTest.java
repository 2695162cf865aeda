import java.math.BigInteger;
import java.util.Random;

/**
 * Programs by chance (always the same ones). What is known of each REGISTER is worked out here a second
 * time, in numbers without bounds and bit by bit; and each program is run here by a second machine, whose
 * values must lie in what was known (promises 7 to 12, 15 to 18).
 */
public final class KnownModelTest {
    private static final BigInteger ONE = BigInteger.ONE;
    private static final BigInteger ZERO = BigInteger.ZERO;
    private static final BigInteger TOP = ONE.shiftLeft(64);
    private static final BigInteger MAX = TOP.subtract(ONE);
    private static final BigInteger TOP32 = ONE.shiftLeft(32);
    private static final BigInteger MAX32 = TOP32.subtract(ONE);
    private static int wrong = 0;
    private static Random chance;
    private static int accepted = 0;
    private static final int[] offences = new int[8];

    private static final class Fact {
        int kind;
        BigInteger low = ZERO;
        BigInteger high = ZERO;
        long known;
        long ones;

        Fact copy() {
            Fact f = new Fact();
            f.kind = kind;
            f.low = low;
            f.high = high;
            f.known = known;
            f.ones = ones;
            return f;
        }
    }

    private static final class State {
        Fact[] r = new Fact[11];
        boolean[] set = new boolean[64];

        State() {
            for (int i = 0; i < 11; i++) {
                r[i] = new Fact();
            }
        }

        State copy() {
            State s = new State();
            for (int i = 0; i < 11; i++) {
                s.r[i] = r[i].copy();
            }
            s.set = set.clone();
            return s;
        }
    }

    private static BigInteger big(long x) {
        BigInteger b = BigInteger.valueOf(x);
        return x < 0 ? b.add(TOP) : b;
    }

    private static Fact exact(long k) {
        Fact f = new Fact();
        f.kind = 1;
        f.low = big(k);
        f.high = big(k);
        return settled(f);
    }

    private static Fact settled(Fact f) {
        if (f.low.equals(f.high)) {
            f.known = -1;
            f.ones = f.low.longValue();
        } else if (f.known == -1) {
            f.low = big(f.ones);
            f.high = big(f.ones);
        }
        return f;
    }

    private static Fact cut(Fact f) {
        if (f.high.compareTo(TOP32) >= 0) {
            f.low = ZERO;
            f.high = MAX32;
        }
        f.known |= 0xFFFFFFFF00000000L;
        f.ones &= 0xFFFFFFFFL;
        return settled(f);
    }

    private static BigInteger fill(BigInteger a, BigInteger b) {
        return ONE.shiftLeft(a.max(b).bitLength()).subtract(ONE);
    }

    private static Fact work(int op, boolean wide, Fact d, Fact s) {
        Fact x = d.copy();
        Fact y = s.copy();
        if (op == 11) {
            return wide ? y : cut(y);
        }
        if (!wide) {
            cut(x);
            cut(y);
        }
        Fact made = new Fact();
        made.kind = x.kind;
        boolean yExact = y.low.equals(y.high);
        if (x.low.equals(x.high) && (op == 8 || yExact)) {
            long v = alu(op, wide, x.low.longValue(), y.low.longValue());
            made.low = big(v);
            made.high = made.low;
            settled(made);
            return wide ? made : cut(made);
        }
        range(op, wide, x, y, made);
        bits(op, wide, x, y, made);
        settled(made);
        return wide ? made : cut(made);
    }

    private static void range(int op, boolean wide, Fact x, Fact y, Fact made) {
        BigInteger l = x.low;
        BigInteger h = x.high;
        BigInteger m = y.low;
        BigInteger n = y.high;
        BigInteger low = ZERO;
        BigInteger high = MAX;
        boolean exact = m.equals(n);
        int k = m.and(BigInteger.valueOf(wide ? 63 : 31)).intValue();
        switch (op) {
            case 0: if (h.add(n).compareTo(TOP) < 0) { low = l.add(m); high = h.add(n); } break;
            case 1: if (l.compareTo(n) >= 0) { low = l.subtract(n); high = h.subtract(m); } break;
            case 2: if (h.multiply(n).compareTo(TOP) < 0) { low = l.multiply(m); high = h.multiply(n); } break;
            case 3: if (m.signum() > 0) { low = l.divide(n); high = h.divide(m); } else { high = h; } break;
            case 4: low = l.max(m); high = fill(h, n); break;
            case 5: high = h.min(n); break;
            case 6: if (exact && h.compareTo(ONE.shiftLeft(64 - k)) < 0) { low = l.shiftLeft(k); high = h.shiftLeft(k); } break;
            case 7: if (exact) { low = l.shiftRight(k); high = h.shiftRight(k); } else { high = h; } break;
            case 9: high = m.signum() > 0 ? h.min(n.subtract(ONE)) : h; break;
            case 10: high = fill(h, n); break;
            case 12:
                if (h.compareTo(ONE.shiftLeft(wide ? 63 : 31)) < 0) {
                    if (exact) { low = l.shiftRight(k); high = h.shiftRight(k); } else { high = h; }
                }
                break;
            default: break;
        }
        made.low = low;
        made.high = high;
    }

    // A bit as a set: 1 if it may be 0, and 2 if it may be 1.
    private static int bit(Fact f, int i) {
        return (f.known >>> i & 1) == 0 ? 3 : (f.ones >>> i & 1) == 0 ? 1 : 2;
    }

    private static void bits(int op, boolean wide, Fact x, Fact y, Fact made) {
        int k = y.low.and(BigInteger.valueOf(wide ? 63 : 31)).intValue();
        boolean exact = y.low.equals(y.high);
        boolean small = x.high.compareTo(ONE.shiftLeft(wide ? 63 : 31)) < 0;
        int carry = 1;
        for (int i = 0; i < 64; i++) {
            int a = bit(x, i);
            int b = bit(y, i);
            int out = 0;
            int next = 0;
            if (op == 0 || op == 1 || op == 4 || op == 5 || op == 10) {
                for (int c = 0; c < 8; c++) {
                    int u = c & 1;
                    int v = c >> 1 & 1;
                    int w = c >> 2;
                    if ((a >> u & 1) == 0 || (b >> v & 1) == 0 || (carry >> w & 1) == 0) {
                        continue;
                    }
                    int sum = op == 0 ? u + v + w : u - v - w;
                    next |= 1 << (op == 0 ? sum >> 1 : sum < 0 ? 1 : 0);
                    out |= 1 << (op < 2 ? sum & 1 : op == 4 ? u | v : op == 5 ? u & v : u ^ v);
                }
                carry = op < 2 ? next : 1;
            } else if (op == 6 && exact) {
                out = i < k ? 1 : bit(x, i - k);
            } else if ((op == 7 || op == 12 && small) && exact) {
                out = i + k > 63 ? 1 : bit(x, i + k);
            } else {
                out = 3;
            }
            if (out != 3) {
                made.known |= 1L << i;
                made.ones |= out == 2 ? 1L << i : 0;
            }
        }
    }

    private static Fact join(Fact a, Fact b) {
        Fact f = new Fact();
        if (a.kind != b.kind || a.kind == 0) {
            return f;
        }
        f.kind = a.kind;
        f.low = a.low.min(b.low);
        f.high = a.high.max(b.high);
        f.known = a.known & b.known & ~(a.ones ^ b.ones);
        f.ones = a.ones & f.known;
        return settled(f);
    }

    private static State join(State a, State b) {
        if (a == null) {
            return b.copy();
        }
        State s = new State();
        for (int i = 0; i < 11; i++) {
            s.r[i] = join(a.r[i], b.r[i]);
        }
        for (int i = 0; i < 64; i++) {
            s.set[i] = a.set[i] && b.set[i];
        }
        return s;
    }

    private static Fact narrowed(Fact d, int op, BigInteger k) {
        Fact f = d.copy();
        switch (op) {
            case 1:
                if (k.compareTo(f.low) < 0 || k.compareTo(f.high) > 0) { return null; }
                return exact(k.longValue()).copy();
            case 5: {
                BigInteger l = f.low;
                BigInteger h = f.high;
                if (l.equals(k)) { f.low = l.add(ONE); }
                if (h.equals(k)) { f.high = h.subtract(ONE); }
                break;
            }
            case 2: f.low = f.low.max(k.add(ONE)); break;
            case 3: f.low = f.low.max(k); break;
            case 10: f.high = f.high.min(k.subtract(ONE)); break;
            default: f.high = f.high.min(k); break;
        }
        return f.low.compareTo(f.high) > 0 ? null : settled(f);
    }

    // ---- the parts of an INSTRUCTION, told apart here by their bytes
    private static int code(long i) { return (int) (i & 255); }
    private static int d(long i) { return (int) (i >> 8 & 15); }
    private static int s(long i) { return (int) (i >> 12 & 15); }
    private static int off(long i) { return (short) (i >> 16); }
    private static int k(long i) { return (int) (i >> 32); }
    private static int kind(long i) { return code(i) & 7; }
    private static boolean jump(long i) { return kind(i) == 5 || kind(i) == 6; }
    private static boolean op(long i) { return kind(i) == 4 || kind(i) == 7; }
    private static boolean load(long i) { return kind(i) == 1; }
    private static boolean store(long i) { return kind(i) == 2 || kind(i) == 3; }
    private static boolean hasS(long i) { return (code(i) & 8) != 0; }
    private static int size(long i) { return new int[] {4, 2, 1, 8}[code(i) >> 3 & 3]; }

    private static boolean fits(long i) {
        int c = code(i);
        String uses;
        if (op(i)) {
            int o = c >> 4;
            if (o > 12 || o == 8 && hasS(i)) { return false; }
            uses = o == 8 ? "d" : hasS(i) ? "ds" : "dk";
        } else if (jump(i)) {
            int o = c >> 4;
            if (c == 149) { uses = ""; }
            else if (c == 5) { uses = "o"; }
            else if (o == 0 || o == 8 || o == 9 || o > 13) { return false; }
            else { uses = hasS(i) ? "dso" : "dko"; }
        } else if (c == 97 || c == 105 || c == 113 || c == 121) { uses = "dso"; }
        else if (c == 99 || c == 107 || c == 115 || c == 123) { uses = "dso"; }
        else if (c == 98 || c == 106 || c == 114 || c == 122) { uses = "dok"; }
        else if (c == 32 || c == 40 || c == 48) { uses = "k"; }
        else if (c == 64 || c == 72 || c == 80) { uses = "sk"; }
        else { return false; }
        return d(i) <= 10 && s(i) <= 10 && (uses.contains("d") || d(i) == 0) && (uses.contains("s") || s(i) == 0)
            && (uses.contains("o") || off(i) == 0) && (uses.contains("k") || k(i) == 0);
    }

    private static int verify(long[] code, State[] states) {
        for (int i = 0; i < code.length; i++) {
            if (!fits(code[i])) { return 16 * i + 1; }
            boolean end = code(code[i]) == 149;
            if (i == code.length - 1 && !end) { return 16 * i + 2; }
            int t = i + 1 + off(code[i]);
            if (jump(code[i]) && !end && (t <= i || t >= code.length)) { return 16 * i + 2; }
        }
        State first = new State();
        first.r[1].kind = 1;
        first.r[1].high = BigInteger.valueOf(256);
        first.r[10] = exact(0);
        first.r[10].kind = 2;
        states[0] = first;
        for (int i = 0; i < code.length; i++) {
            if (states[i] == null) { continue; }
            int offence = offence(code[i], states[i]);
            if (offence != 0) {
                for (int k = i + 1; k < code.length; k++) { states[k] = null; }
                return 16 * i + offence;
            }
            pass(code, i, states);
        }
        return 0;
    }

    private static Fact place(long i, State s) {
        Fact base = s.r[load(i) ? s(i) : d(i)];
        return work(0, true, base, exact(off(i)));
    }

    private static int offence(long i, State st) {
        Fact[] r = st.r;
        int c = code(i);
        int o = c >> 4;
        boolean usesD = op(i) && o != 11 || jump(i) && c != 149 && c != 5 || store(i);
        boolean usesS = op(i) && hasS(i) || jump(i) && hasS(i) || load(i) || kind(i) == 3 || c == 64 || c == 72 || c == 80;
        boolean uses0 = c == 149;
        if (usesD && r[d(i)].kind == 0 || usesS && r[s(i)].kind == 0 || uses0 && r[0].kind == 0) { return 4; }
        if ((op(i) || load(i)) && d(i) == 10) { return 5; }
        boolean dFree = store(i) || kind(i) == 7 && o < 2;
        boolean sFree = load(i) || kind(i) == 7 && o == 11;
        if (usesD && !dFree && r[d(i)].kind == 2 || usesS && !sFree && r[s(i)].kind == 2 || uses0 && r[0].kind == 2) { return 6; }
        if (load(i) || store(i)) {
            if (r[load(i) ? s(i) : d(i)].kind == 1) { return 7; }
            Fact p = place(i, st);
            BigInteger first = p.low.subtract(TOP).add(BigInteger.valueOf(64));
            BigInteger last = p.high.subtract(TOP).add(BigInteger.valueOf(64 + size(i) - 1));
            if (first.signum() < 0 || last.compareTo(BigInteger.valueOf(63)) > 0) { return 7; }
            for (int b = 1; b < size(i); b *= 2) {
                if ((p.known & b) == 0 || (p.ones & b) != 0) { return 7; }
            }
            for (int b = first.intValue(); load(i) && b <= last.intValue(); b++) {
                if (!st.set[b]) { return 7; }
            }
        }
        return 0;
    }

    private static void pass(long[] code, int n, State[] states) {
        long i = code[n];
        int c = code(i);
        int o = c >> 4;
        State st = states[n].copy();
        if (c == 149) { return; }
        if (jump(i)) {
            int t = n + 1 + off(i);
            if (c == 5) { states[t] = join(states[t], st); return; }
            Fact y = hasS(i) ? st.r[s(i)] : exact(k(i));
            boolean tells = kind(i) == 5 && y.low.equals(y.high) && (o <= 3 || o == 5 || o == 10 || o == 11);
            int[] other = {0, 5, 11, 10, 0, 1, 0, 0, 0, 0, 3, 2};
            Fact yes = tells ? narrowed(st.r[d(i)], o, y.low) : st.r[d(i)];
            Fact no = tells ? narrowed(st.r[d(i)], other[o], y.low) : st.r[d(i)];
            if (yes != null) {
                State a = st.copy();
                a.r[d(i)] = yes.copy();
                states[t] = join(states[t], a);
            }
            if (no != null) {
                State a = st.copy();
                a.r[d(i)] = no.copy();
                states[n + 1] = join(states[n + 1], a);
            }
            return;
        }
        if (op(i)) {
            st.r[d(i)] = work(o, kind(i) == 7, st.r[d(i)], hasS(i) ? st.r[s(i)] : exact(k(i)));
        } else if (load(i) || kind(i) == 0) {
            Fact f = new Fact();
            f.kind = 1;
            f.high = ONE.shiftLeft(8 * size(i)).subtract(ONE);
            f.known = size(i) == 8 ? 0 : -1L << 8 * size(i);
            st.r[load(i) ? d(i) : 0] = f;
            for (int r = 1; !load(i) && r <= 5; r++) { st.r[r] = new Fact(); }
        } else {
            Fact p = place(i, st);
            if (p.low.equals(p.high)) {
                for (int b = 0; b < size(i); b++) { st.set[p.low.subtract(TOP).intValue() + 64 + b] = true; }
            }
        }
        states[n + 1] = join(states[n + 1], st);
    }

    // ---- the second machine
    private static long alu(int op, boolean wide, long a, long b) {
        long x = wide ? a : a & 0xFFFFFFFFL;
        long y = wide ? b : b & 0xFFFFFFFFL;
        long v;
        switch (op) {
            case 0: v = x + y; break;
            case 1: v = x - y; break;
            case 2: v = x * y; break;
            case 3: v = y == 0 ? 0 : Long.divideUnsigned(x, y); break;
            case 4: v = x | y; break;
            case 5: v = x & y; break;
            case 6: v = wide ? x << y : (int) x << y; break;
            case 7: v = wide ? x >>> y : (int) x >>> y; break;
            case 8: v = -x; break;
            case 9: v = y == 0 ? x : Long.remainderUnsigned(x, y); break;
            case 10: v = x ^ y; break;
            case 11: v = y; break;
            default: v = wide ? x >> y : (int) x >> (int) y; break;
        }
        return wide ? v : v & 0xFFFFFFFFL;
    }

    private static boolean goes(int op, boolean wide, long a, long b) {
        long x = wide ? a : (int) a;
        long y = wide ? b : (int) b;
        int u = Long.compareUnsigned(wide ? a : a & 0xFFFFFFFFL, wide ? b : b & 0xFFFFFFFFL);
        switch (op) {
            case 0: return true;
            case 1: return u == 0;
            case 2: return u > 0;
            case 3: return u >= 0;
            case 4: return wide ? (a & b) != 0 : (int) (a & b) != 0;
            case 5: return u != 0;
            case 6: return x > y;
            case 7: return x >= y;
            case 10: return u < 0;
            case 11: return u <= 0;
            case 12: return x < y;
            default: return x <= y;
        }
    }

    private static final long[] reg = new long[11];
    private static final byte[] mem = new byte[64];
    private static int steps;
    private static int trap;
    private static int at;

    /** Runs it here; with states each value must lie in what was known. */
    private static long perform(long[] code, int[] packet, State[] states) {
        java.util.Arrays.fill(reg, 0);
        java.util.Arrays.fill(mem, (byte) 0);
        reg[1] = packet.length;
        reg[10] = 131136;
        steps = 0;
        trap = 0;
        at = 0;
        while (true) {
            if (states != null) { within(states[at], at); }
            if (steps == 10000) { trap = 9; return 0; }
            long i = code[at];
            int c = code(i);
            int next = at + 1;
            if (!fits(i)) { trap = 1; return 0; }
            if (c == 149) { steps++; return reg[0]; }
            long y = hasS(i) ? reg[s(i)] : k(i);
            if (op(i)) {
                reg[d(i)] = alu(c >> 4, kind(i) == 7, reg[d(i)], y);
            } else if (jump(i)) {
                if (goes(c >> 4, kind(i) == 5, reg[d(i)], y)) { next += off(i); }
            } else if (kind(i) == 0) {
                long from = (c < 64 ? k(i) : reg[s(i)] + k(i)) & 0xFFFFFFFFL;
                if (from + size(i) > packet.length) { reg[0] = 0; steps++; return 0; }
                reg[0] = 0;
                for (int b = 0; b < size(i); b++) { reg[0] = reg[0] << 8 | packet[(int) from + b]; }
            } else {
                long from = reg[load(i) ? s(i) : d(i)] + off(i) - 131072;
                if (from < 0 || from > 64 - size(i)) { trap = 7; return 0; }
                long v = load(i) ? 0 : kind(i) == 3 ? reg[s(i)] : k(i);
                for (int b = 0; b < size(i); b++) {
                    if (load(i)) { v |= (mem[(int) from + b] & 255L) << 8 * b; }
                    else { mem[(int) from + b] = (byte) (v >> 8 * b); }
                }
                if (load(i)) { reg[d(i)] = v; }
            }
            if (next < 0 || next >= code.length) { trap = 2; return 0; }
            steps++;
            at = next;
        }
    }

    private static void within(State st, int at) {
        due("reached " + at, st == null ? 0 : 1, 1);
        for (int r = 0; st != null && r < 11; r++) {
            Fact f = st.r[r];
            if (f.kind == 0) { continue; }
            BigInteger v = big(f.kind == 2 ? reg[r] - 131136 : reg[r]);
            boolean in = v.compareTo(f.low) >= 0 && v.compareTo(f.high) <= 0 && (v.longValue() & f.known) == f.ones;
            due("value " + v + " of register " + r + " ahead of " + at + " within", in ? 1 : 0, 1);
        }
    }

    // ---- programs by chance
    private static int pick(int n) {
        return chance.nextInt(n);
    }

    private static long made(int code, int d, int s, int off, int k) {
        return (long) k << 32 | (off & 0xFFFFL) << 16 | s << 12 | d << 8 | code;
    }

    private static int number() {
        switch (pick(7)) {
            case 0: return pick(10);
            case 1: return -1 - pick(5);
            case 2: return 1 << pick(32);
            case 3: return (1 << pick(32)) - 1;
            case 4: return pick(300);
            case 5: return chance.nextInt();
            default: return pick(64);
        }
    }

    private static int offset(int size) {
        return pick(12) == 0 ? pick(140) - 100 : -size * (1 + pick(64 / size));
    }

    private static final int[] OPS = {0, 1, 2, 3, 4, 5, 6, 7, 9, 10, 11, 12};

    private static long chosen(int left, int[] ready) {
        int d = ready[pick(ready.length)];
        int s = ready[pick(ready.length)];
        int wide = pick(3) > 0 ? 7 : 4;
        int[] sizes = {4, 2, 1, 8};
        switch (pick(20)) {
            case 0: return made(0xb0 | wide, d, 0, 0, number());
            case 1: return made(0xb8 | wide, d, pick(4) == 0 ? 10 : s, 0, 0);
            case 2: case 3: case 4: case 5: return made(OPS[pick(12)] << 4 | wide, d, 0, 0, number());
            case 6: case 7: case 8: case 9: return made(OPS[pick(12)] << 4 | wide | 8, pick(60) == 0 ? 10 : d, s, 0, 0);
            case 10: return made(0x80 | wide, d, 0, 0, 0);
            case 11: case 12: case 13: case 14: {
                int[] ops = {1, 2, 3, 4, 5, 6, 7, 10, 11, 12, 13, 1, 2, 3, 5, 10, 11};
                int kind = pick(4) == 0 ? 6 : 5;
                int off = pick(Math.max(1, Math.min(left, 6)));
                boolean reg = pick(3) == 0;
                return made(ops[pick(ops.length)] << 4 | kind | (reg ? 8 : 0), d, reg ? s : 0, off, reg ? 0 : number());
            }
            case 15: return made(5, 0, 0, pick(Math.max(1, Math.min(left, 4))), 0);
            case 16: {
                int z = pick(4);
                return made(new int[] {99, 107, 115, 123}[z], 10, s, offset(sizes[z]), 0);
            }
            case 17: {
                int z = pick(4);
                return made(new int[] {98, 106, 114, 122}[z], pick(3) == 0 ? d : 10, 0, offset(sizes[z]), number());
            }
            case 18: {
                int z = pick(4);
                return made(new int[] {97, 105, 113, 121}[z], d, pick(3) == 0 ? s : 10, offset(sizes[z]), 0);
            }
            default: {
                int z = pick(3);
                boolean byS = pick(2) == 0;
                return made(32 + 8 * z + (byS ? 32 : 0), 0, byS ? s : 0, 0, pick(byS ? 4 : 30));
            }
        }
    }

    private static long[] program() {
        int n = 3 + pick(30);
        int[] ready = {0, 6, 7, 8, 9};
        if (pick(3) == 0) {
            ready = new int[] {0, 1, 2, 3, 6, 7};
        }
        boolean filled = pick(3) > 0;
        long[] code = new long[n + ready.length + 1 + (filled ? 8 : 0)];
        int i = 0;
        for (int slot = 0; filled && slot < 8; slot++) {
            code[i++] = made(slot == 3 ? 123 : 122, 10, slot == 3 ? 1 : 0, -8 - 8 * slot, slot == 3 ? 0 : number());
        }
        for (int r : ready) {
            boolean first = pick(5) == 0;
            code[i++] = first ? made(0xbf, r, r == 9 && pick(2) == 0 ? 10 : 1, 0, 0) : made(0xb7, r, 0, 0, number());
        }
        boolean slots = pick(2) == 0;
        while (i < code.length - 1) {
            if (slots && pick(4) == 0 && i < code.length - 6) {
                i = pointing(code, i);
            } else {
                code[i] = chosen(code.length - 2 - i, ready);
                i++;
            }
        }
        code[i] = made(149, 0, 0, 0, 0);
        if (pick(20) == 0) {
            code[pick(code.length)] ^= 1L << pick(64);
        }
        return code;
    }

    /** A pointer that is not known to the last, with a store or load through it. */
    private static int pointing(long[] code, int from) {
        int i = from;
        int mask = new int[] {8, 24, 16, 56, 4, 7, 48}[pick(7)];
        code[i++] = made(0x57, 6, 0, 0, mask);
        code[i++] = made(0xbf, 9, 10, 0, 0);
        code[i++] = pick(2) == 0 ? made(0x0f, 9, 6, 0, 0) : made(0x1f, 9, 6, 0, 0);
        int z = pick(4);
        int off = pick(3) == 0 ? -8 * (1 + pick(8)) : -64;
        code[i++] = pick(2) == 0 ? made(new int[] {99, 107, 115, 123}[z], 9, 7, off, 0)
            : made(new int[] {97, 105, 113, 121}[z], 8, 9, off, 0);
        code[i++] = made(0xb7, 9, 0, 0, number());
        return i;
    }

    private static String shown = "";

    private static void due(String what, long got, long want) {
        if (got != want) {
            wrong++;
            System.out.println(what + " answered " + got + ", due is " + want + " of " + shown);
        }
    }

    private static void feed(FilterForge x, int[] cells) {
        for (int i = 0; i < cells.length; i += 20) {
            int[] five = new int[5];
            for (int k = 0; k < 20; k++) {
                five[k / 4] = five[k / 4] << 8 | (i + k < cells.length ? cells[i + k] : 0);
            }
            x.feed(five[0], five[1], five[2], five[3], five[4]);
        }
        x.end(cells.length);
    }

    private static int[] cells(long[] code) {
        int[] cells = new int[8 * code.length];
        for (int i = 0; i < cells.length; i++) {
            cells[i] = (int) (code[i / 8] >> 8 * (i % 8) & 255);
        }
        return cells;
    }

    private static void compareKnown(FilterForge x, State[] states, boolean looked) {
        for (int i = 0; i < states.length; i++) {
            State st = looked ? states[i] : null;
            for (int r = 0; r < 11; r++) {
                Fact f = st == null ? null : st.r[r];
                String name = "known(" + i + ", " + r + ", ";
                due(name + "0)", x.known(i, r, 0), f == null ? -1 : f.kind);
                due(name + "1)", x.known(i, r, 1), f == null ? 0 : f.low.longValue());
                due(name + "2)", x.known(i, r, 2), f == null ? 0 : f.high.longValue());
                due(name + "3)", x.known(i, r, 3), f == null ? 0 : f.known);
                due(name + "4)", x.known(i, r, 4), f == null ? 0 : f.ones);
            }
            for (int b = 0; b < 64; b++) {
                due("known(" + i + ", 11, " + b + ")", x.known(i, 11, b), st == null ? b == 0 ? -1 : 0 : st.set[b] ? 1 : 0);
            }
        }
    }

    private static void round(int number) {
        chance = new Random(number);
        long[] code = program();
        StringBuilder b = new StringBuilder("program " + number);
        shown = b.toString();
        FilterForge x = new FilterForge();
        feed(x, cells(code));
        due("load", x.load(), code.length);
        State[] states = new State[code.length];
        int verdict = verify(code, states);
        due("verify", x.verify(), verdict);
        offences[verdict & 7]++;
        compareKnown(x, states, verdict == 0 || (verdict & 15) > 2);
        int words = x.translate();
        due("translate", words > 0 ? 1 : words, verdict == 0 ? 1 : -1);
        compareKnown(x, states, verdict == 0 || (verdict & 15) > 2);
        for (int p = 0; p < 6; p++) {
            int[] packet = new int[p == 0 ? 0 : pick(60)];
            for (int i = 0; i < packet.length; i++) {
                packet[i] = pick(3) == 0 ? pick(4) : pick(256);
            }
            feed(x, packet);
            due("packet", x.packet(), p);
            long answer = perform(code, packet, verdict == 0 ? states : null);
            due("run", x.run(p), answer);
            due("trap", x.ended(0), trap);
            due("steps", x.ended(1), steps);
            due("place", x.ended(2), at);
            compareMachine(x, false);
            if (verdict == 0) {
                accepted++;
                due("no trap", trap, 0);
                due("few steps", steps <= code.length ? 1 : 0, 1);
                due("emulate", x.emulate(p), answer);
                due("trap of it", x.ended(0), 0);
                compareMachine(x, true);
            }
        }
    }

    private static void compareMachine(FilterForge x, boolean other) {
        for (int r = 0; r < 11; r++) {
            int place = !other ? r : r < 6 ? 10 + r : 12 + r;
            due("register " + r + (other ? " of the other" : ""), x.register(place), reg[r]);
        }
        for (int b = 0; b < 64; b++) {
            due("stack " + b, x.stack(b), mem[b] & 255);
        }
    }

    public static void main(String[] args) {
        int rounds = args.length > 0 ? Integer.parseInt(args[0]) : 4000;
        for (int i = 1; i <= rounds && wrong < 20; i++) {
            round(i);
        }
        System.out.println("programs by chance: " + accepted / 6 + " accepted, offences "
            + java.util.Arrays.toString(offences));
        System.exit(wrong == 0 ? 0 : 1);
    }
}
