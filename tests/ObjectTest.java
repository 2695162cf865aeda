import java.util.ArrayList;
import java.util.List;
import java.util.Random;

/** translate, raw, word, emulate (promises 12 to 18). WORDS are put together here by name. */
public final class ObjectTest {
    private static int wrong = 0;

    private static void due(String call, long got, long want) {
        if (got != want) {
            wrong++;
            System.out.println(call + " answered " + got + ", due is " + want);
        }
    }

    private static void feed(FilterForge x, int[] cells) {
        for (int i = 0; i < cells.length; i += 20) {
            int[] five = new int[5];
            for (int k = 0; k < 20; k++) {
                five[k / 4] = five[k / 4] << 8 | (i + k < cells.length ? cells[i + k] & 255 : 0);
            }
            x.feed(five[0], five[1], five[2], five[3], five[4]);
        }
        x.end(cells.length);
    }

    private static void load(FilterForge x, String... rows) {
        int[] cells = new int[8 * rows.length];
        for (int i = 0; i < rows.length; i++) {
            String[] p = rows[i].split(" ");
            long code = Long.parseLong(p[0], 16) | Long.parseLong(p[1], 16) << 8 | Long.parseLong(p[2], 16) << 12
                | (Long.parseLong(p[3]) & 0xFFFF) << 16 | Long.parseLong(p[4]) << 32;
            for (int k = 0; k < 8; k++) {
                cells[8 * i + k] = (int) (code >>> 8 * k & 255);
            }
        }
        feed(x, cells);
        due("load", x.load(), rows.length);
    }

    private static int raw(FilterForge x, int... words) {
        int[] cells = new int[4 * words.length];
        for (int i = 0; i < cells.length; i++) {
            cells[i] = words[i / 4] >>> 8 * (i % 4) & 255;
        }
        feed(x, cells);
        return x.raw();
    }

    // ---- WORDS by name
    private static final String[] R = {"ADD", "SUB", "SLL", "SLT", "SLTU", "XOR", "SRL", "SRA", "OR", "AND", "MUL", "DIVU",
        "REMU", "ADDW", "SUBW", "SLLW", "SRLW", "SRAW", "MULW", "DIVUW", "REMUW"};
    private static final int[] R_WORDS = {0x33, 0x40000033, 0x1033, 0x2033, 0x3033, 0x4033, 0x5033, 0x40005033, 0x6033, 0x7033,
        0x02000033, 0x02005033, 0x02007033, 0x3b, 0x4000003b, 0x103b, 0x503b, 0x4000503b, 0x0200003b, 0x0200503b, 0x0200703b};
    private static final String[] I = {"ADDI", "SLTI", "SLTIU", "XORI", "ORI", "ANDI", "SLLI", "SRLI", "SRAI", "ADDIW", "SLLIW",
        "SRLIW", "SRAIW", "JALR", "LB", "LH", "LW", "LD", "LBU", "LHU", "LWU"};
    private static final int[] I_WORDS = {0x13, 0x2013, 0x3013, 0x4013, 0x6013, 0x7013, 0x1013, 0x5013, 0x40005013, 0x1b, 0x101b,
        0x501b, 0x4000501b, 0x67, 0x03, 0x1003, 0x2003, 0x3003, 0x4003, 0x5003, 0x6003};
    private static final String[] S = {"SB", "SH", "SW", "SD"};
    private static final int[] S_WORDS = {0x23, 0x1023, 0x2023, 0x3023};
    private static final String[] B = {"BEQ", "BNE", "BLT", "BGE", "BLTU", "BGEU"};
    private static final int[] B_WORDS = {0x63, 0x1063, 0x4063, 0x5063, 0x6063, 0x7063};

    private static int find(String[] names, String name) {
        for (int i = 0; i < names.length; i++) {
            if (names[i].equals(name)) {
                return i;
            }
        }
        return -1;
    }

    /** R: target, first, second. I: target, first, number. S: second, base, number. B: first, second, by. */
    private static int w(String name, int a, int b, int c) {
        int at = find(R, name);
        if (at >= 0) {
            return R_WORDS[at] | a << 7 | b << 15 | c << 20;
        }
        at = find(I, name);
        if (at >= 0) {
            return I_WORDS[at] | a << 7 | b << 15 | c << 20;
        }
        at = find(S, name);
        if (at >= 0) {
            return S_WORDS[at] | a << 20 | b << 15 | (c & 31) << 7 | c >> 5 << 25;
        }
        at = find(B, name);
        return B_WORDS[at] | a << 15 | b << 20 | (c >> 1 & 15) << 8 | (c >> 5 & 63) << 25 | (c >> 11 & 1) << 7 | c >> 12 << 31;
    }

    private static int lui(int a, int upper) {
        return 0x37 | a << 7 | upper << 12;
    }

    private static int jal(int a, int by) {
        return 0x6f | a << 7 | by >> 20 << 31 | (by >> 1 & 0x3ff) << 21 | (by >> 11 & 1) << 20 | (by >> 12 & 0xff) << 12;
    }

    private static final int ECALL = 0x73;
    private static final int T = 5;
    private static final int U = 6;
    private static final int V = 7;

    private static int addi(int a, int b, int number) {
        return w("ADDI", a, b, number);
    }

    /** What an INSTRUCTION behind r1 .. r9 set to 1 becomes, then r0 = 2 and the end. */
    private static void becomes(String row, int... words) {
        FilterForge x = new FilterForge();
        String[] rows = new String[13];
        rows[0] = "b7 0 0 0 1";
        for (int i = 1; i < 10; i++) {
            rows[i] = "b7 " + i + " 0 0 1";
        }
        rows[10] = row;
        rows[11] = "b7 0 0 0 2";
        rows[12] = "95 0 0 0 0";
        if (row.matches("(61|69|71|79) .*")) {
            rows[9] = "7a a 0 -8 1";
        }
        load(x, rows);
        due("verify of " + row, x.verify(), 0);
        int ahead = rows[9].startsWith("7a") ? 9 + 4 : 10;
        due("words of " + row, x.translate(), ahead + words.length + 2);
        for (int i = 0; i < words.length; i++) {
            due("word " + i + " of " + row, x.word(ahead + i), words[i]);
        }
        due("the next of " + row, x.word(ahead + words.length), addi(10, 0, 2));
        due("the end of " + row, x.word(ahead + words.length + 1), ECALL);
        due("behind the end", x.word(ahead + words.length + 2), 0);
        due("ahead of the first", x.word(-1), 0);
        due("count(2)", x.count(2), ahead + words.length + 2);
    }

    private static int cutLeft(int a) {
        return w("SLLI", a, a, 32);
    }

    private static int cutRight(int a) {
        return w("SRLI", a, a, 32);
    }

    private static void ops() {
        String[] names = {"ADD", "SUB", "MUL", "", "OR", "AND", "SLL", "SRL", "", "REMU", "XOR", "", "SRA"};
        String[] narrow = {"ADDW", "SUBW", "MULW", "", "OR", "AND", "SLLW", "SRLW", "", "REMUW", "XOR", "", "SRAW"};
        for (int op = 0; op < names.length; op++) {
            if (names[op].isEmpty()) {
                continue;
            }
            String o = Integer.toHexString(op);
            becomes(o + "f 6 3 0 0", w(names[op], 18, 18, 13));
            becomes(o + "7 6 0 0 -2048", addi(T, 0, -2048), w(names[op], 18, 18, T));
            becomes(o + "c 9 8 0 0", w(narrow[op], 21, 21, 20), cutLeft(21), cutRight(21));
            becomes(o + "4 5 0 0 2047", addi(T, 0, 2047), w(narrow[op], 15, 15, T), cutLeft(15), cutRight(15));
        }
        becomes("87 4 0 0 0", w("SUB", 14, 0, 14));
        becomes("84 4 0 0 0", w("SUBW", 14, 0, 14), cutLeft(14), cutRight(14));
        becomes("bf 2 3 0 0", addi(12, 13, 0));
        becomes("bf 2 a 0 0", addi(12, 22, 0));
        becomes("bc 2 3 0 0", addi(12, 13, 0), cutLeft(12), cutRight(12));
        becomes("b7 2 0 0 2048", lui(12, 1), w("ADDIW", 12, 12, -2048));
        becomes("b7 2 0 0 -2049", lui(12, 0xfffff), w("ADDIW", 12, 12, 2047));
        becomes("b7 2 0 0 4096", lui(12, 1), w("ADDIW", 12, 12, 0));
        becomes("b7 2 0 0 2147483647", lui(12, 0x80000), w("ADDIW", 12, 12, -1));
        becomes("b7 2 0 0 -2147483648", lui(12, 0x80000), w("ADDIW", 12, 12, 0));
        becomes("b4 2 0 0 -1", addi(12, 0, -1), cutLeft(12), cutRight(12));
        becomes("3f 2 3 0 0", w("BEQ", 13, 0, 12), w("DIVU", 12, 12, 13), jal(0, 8), addi(12, 0, 0));
        becomes("37 2 0 0 0", addi(T, 0, 0), w("BEQ", T, 0, 12), w("DIVU", 12, 12, T), jal(0, 8), addi(12, 0, 0));
        becomes("3c 2 3 0 0", w("ADDIW", U, 13, 0), w("BEQ", U, 0, 12), w("DIVUW", 12, 12, U), jal(0, 8), addi(12, 0, 0),
            cutLeft(12), cutRight(12));
        becomes("34 2 0 0 9", addi(T, 0, 9), w("ADDIW", U, T, 0), w("BEQ", U, 0, 12), w("DIVUW", 12, 12, U), jal(0, 8),
            addi(12, 0, 0), cutLeft(12), cutRight(12));
    }

    private static void jumps() {
        becomes("5 0 0 0 0", jal(0, 4));
        becomes("5 0 0 1 0", jal(0, 8));
        Object[][] signs = {{1, "BNE", false}, {5, "BEQ", false}, {2, "BGEU", true}, {3, "BLTU", false}, {10, "BGEU", false},
            {11, "BLTU", true}, {6, "BGE", true}, {7, "BLT", false}, {12, "BGE", false}, {13, "BLT", true}};
        for (Object[] sign : signs) {
            String o = Integer.toHexString((Integer) sign[0]);
            String name = (String) sign[1];
            boolean turned = (Boolean) sign[2];
            becomes(o + "d 2 3 0 0", w(name, turned ? 13 : 12, turned ? 12 : 13, 8), jal(0, 4));
            becomes(o + "5 2 0 1 5000", lui(T, 1), w("ADDIW", T, T, 904), w(name, turned ? T : 12, turned ? 12 : T, 8), jal(0, 8));
            becomes(o + "e 2 3 0 0", w("ADDIW", U, 12, 0), w("ADDIW", V, 13, 0), w(name, turned ? V : U, turned ? U : V, 8), jal(0, 4));
            becomes(o + "6 2 0 1 -1", addi(T, 0, -1), w("ADDIW", U, 12, 0), w("ADDIW", V, T, 0),
                w(name, turned ? V : U, turned ? U : V, 8), jal(0, 8));
        }
        becomes("4d 2 3 0 0", w("AND", U, 12, 13), w("BEQ", U, 0, 8), jal(0, 4));
        becomes("45 2 0 1 3", addi(T, 0, 3), w("AND", U, 12, T), w("BEQ", U, 0, 8), jal(0, 8));
        becomes("46 2 0 0 3", addi(T, 0, 3), w("ADDIW", U, 12, 0), w("ADDIW", V, T, 0), w("AND", U, U, V), w("BEQ", U, 0, 8), jal(0, 4));
    }

    private static void memory() {
        String[] loads = {"LWU", "LHU", "LBU", "LD"};
        String[] stores = {"SW", "SH", "SB", "SD"};
        String[] codes = {"61", "69", "71", "79"};
        String[] withS = {"63", "6b", "73", "7b"};
        String[] withK = {"62", "6a", "72", "7a"};
        for (int i = 0; i < 4; i++) {
            becomes(codes[i] + " 7 a -8 0", addi(T, 0, -8), w("ADD", T, T, 22), w(loads[i], 19, T, 0));
            becomes(withS[i] + " a 7 -16 0", addi(T, 0, -16), w("ADD", T, T, 22), w(stores[i], 19, T, 0));
            becomes(withK[i] + " a 0 -16 65536", addi(T, 0, -16), w("ADD", T, T, 22), lui(U, 16), w("ADDIW", U, U, 0),
                w(stores[i], U, T, 0));
        }
    }

    private static void reads() {
        for (int i = 0; i < 3; i++) {
            int size = 4 >> i;
            for (int s = 0; s < 2; s++) {
                List<Integer> due = new ArrayList<>();
                due.add(addi(T, 0, 20));
                if (s == 1) {
                    due.add(w("ADDW", T, T, 18));
                }
                due.add(cutLeft(T));
                due.add(cutRight(T));
                due.add(addi(U, T, size));
                due.add(w("BGEU", 9, U, 12));
                due.add(addi(10, 0, 0));
                due.add(ECALL);
                due.add(w("ADD", T, T, 8));
                due.add(w("LBU", 10, T, 0));
                for (int k = 1; k < size; k++) {
                    due.add(w("SLLI", 10, 10, 8));
                    due.add(w("LBU", U, T, k));
                    due.add(w("OR", 10, 10, U));
                }
                String row = Integer.toHexString(32 + 8 * i + 32 * s) + (s == 1 ? " 0 6 0 20" : " 0 0 0 20");
                int[] words = new int[due.size()];
                for (int k = 0; k < words.length; k++) {
                    words[k] = due.get(k);
                }
                becomes(row, words);
            }
        }
    }

    private static void refusals() {
        FilterForge x = new FilterForge();
        due("translate of nothing", x.translate(), -1);
        due("raw of nothing", x.raw(), -1);
        x.feed(1, 2, 3, 4, 5);
        x.end(18);
        due("raw of 18", x.raw(), -1);
        due("the tape behind it", x.count(3), 0);
        due("emulate of nothing", x.emulate(0), 0);
        feed(x, new int[] {1, 2, 3});
        x.packet();
        due("emulate of nothing", x.emulate(0), 0);
        due("raw", raw(x, addi(10, 0, 7), ECALL), 2);
        due("the tape behind it", x.count(3), 0);
        due("word 0", x.word(0), addi(10, 0, 7));
        due("word 1", x.word(1), ECALL);
        due("word 2", x.word(2), 0);
        due("emulate", x.emulate(0), 7);
        due("emulate of no packet", x.emulate(1), 0);
        due("what was stays", x.register(10), 7);
        due("register 31", x.register(31), 0);
        due("register 32", x.register(32), 0);
        due("register 22", x.register(22), 131136);
        due("register 8", x.register(8), 65536);
        due("register 9", x.register(9), 3);
        due("register 11", x.register(11), 3);
        load(x, "b7 1 0 0 0", "95 0 0 0 0");
        due("translate of one that is not accepted", x.translate(), -1);
        due("OBJECT stays", x.count(2), 2);
        due("emulate still", x.emulate(0), 7);
        load(x, "b7 0 0 0 9", "95 0 0 0 0");
        due("translate", x.translate(), 2);
        due("emulate of it", x.emulate(0), 9);
        due("run of it", x.run(0), 9);
        due("register 22 of run", x.register(22), 0);
        due("a number without sign", raw(x, lui(10, 0xfffff), ECALL), 2);
        due("its word", x.word(0), 0xfffff537);
        due("its answer", x.emulate(0), -4096);
    }

    private static void ended(FilterForge x, String name, long answer, int trap, int steps, int place) {
        due(name + ": emulate", x.emulate(0), answer);
        due(name + ": trap", x.ended(0), trap);
        due(name + ": steps", x.ended(1), steps);
        due(name + ": place", x.ended(2), place);
    }

    private static void runs(String name, long answer, int trap, int steps, int place, int... words) {
        FilterForge x = new FilterForge();
        feed(x, new int[] {0x81, 2, 3, 4, 5, 6, 7, 8, 9});
        x.packet();
        raw(x, words);
        ended(x, name, answer, trap, steps, place);
    }

    private static void traps() {
        int[] missing = {0, -1, 0x17, 0x0000000f, 0x00100073, 0x73 | 1 << 7, 0x02001033, 0x02002033, 0x02003033, 0x02004033,
            0x02006033, 0x40001033, 0x40007033, 0x04000033, 0x1067, 0x2063, 0x3063, 0x7003, 0x4023, 0x02001013 | 1 << 26,
            0x40001013, 0x20005013, 0x0200101b, 0x4200501b, 0x201b, 0x601b, 0x203b, 0x0200403b, 0x0200603b, 0x4000103b, 0x1,
            0x33 - 1, 0x2f, 0x53, 0x1073};
        for (int word : missing) {
            runs("no such word " + Integer.toHexString(word), 0, 1, 1, 1, addi(10, 0, 1), word, ECALL);
        }
        runs("shift by 63", 1, 0, 4, 3, addi(10, 0, -1), w("SRLI", 10, 10, 63), w("SLLI", 11, 10, 63), ECALL);
        runs("no end", 0, 2, 0, 0, addi(10, 0, 1));
        runs("jal to 2", 0, 2, 0, 0, jal(0, 2), ECALL);
        runs("jal below", 0, 2, 1, 1, addi(10, 0, 1), jal(0, -8), ECALL);
        runs("jal behind", 0, 2, 0, 0, jal(0, 8), ECALL);
        runs("jal to the last", 0, 0, 2, 1, jal(0, 4), ECALL);
        runs("jalr to an odd one", 8, 0, 3, 2, addi(10, 0, 9), w("JALR", 10, 10, 0), ECALL);
        runs("jalr to 6", 0, 2, 1, 1, addi(10, 0, 6), w("JALR", 1, 10, 0), ECALL);
        runs("jalr far", 0, 2, 1, 1, addi(10, 0, -4), w("JALR", 1, 10, 0), ECALL);
        runs("branch that does not go behind", 0, 0, 2, 1, w("BNE", 0, 0, 4000), ECALL);
        runs("branch that goes behind", 0, 2, 0, 0, w("BEQ", 0, 0, 4000), ECALL);
        runs("the last without going", 0, 2, 1, 1, jal(0, 4), w("BNE", 0, 0, -4));
        runs("for ever", 0, 9, 100000, 0, jal(0, 0));
        runs("packet", 0x81, 0, 2, 1, w("LBU", 10, 8, 0), ECALL);
        runs("packet with sign", -127, 0, 2, 1, w("LB", 10, 8, 0), ECALL);
        runs("packet, 8", 0x0807060504030281L, 0, 2, 1, w("LD", 10, 8, 0), ECALL);
        runs("packet, the last 8", 0x0908070605040302L, 0, 2, 1, w("LD", 10, 8, 1), ECALL);
        runs("packet, behind the last", 0, 7, 0, 0, w("LD", 10, 8, 2), ECALL);
        runs("packet, ahead", 0, 7, 0, 0, w("LBU", 10, 8, -1), ECALL);
        runs("packet, to x0 behind the last", 0, 7, 0, 0, w("LBU", 0, 8, 9), ECALL);
        runs("packet, written", 0, 7, 0, 0, w("SB", 0, 8, 0), ECALL);
        runs("stack, any place", 0x0400, 0, 4, 3, addi(10, 0, 4), w("SB", 10, 22, -6), w("LHU", 10, 22, -7), ECALL);
        runs("stack, behind", 0, 7, 0, 0, w("SH", 10, 22, -1), ECALL);
        runs("stack, ahead", 0, 7, 0, 0, w("LW", 10, 22, -65), ECALL);
        runs("stack, first", 0, 0, 3, 2, w("SD", 9, 22, -64), w("LWU", 10, 22, -60), ECALL);
        runs("x0 stays", 0, 0, 3, 2, addi(0, 0, 5), addi(10, 0, 0), ECALL);
        runs("by 0", -1, 0, 2, 1, w("DIVU", 10, 9, 0), ECALL);
        runs("rest by 0", 9, 0, 2, 1, w("REMU", 10, 9, 0), ECALL);
    }

    // ---- WORDS by chance against a second machine
    private static final long[] x = new long[32];
    private static final byte[] stack = new byte[64];
    private static int trap;
    private static int steps;
    private static int at;

    private static long second(String name, long a, long b) {
        int u = (int) a;
        int v = (int) b;
        switch (name) {
            case "ADD": case "ADDI": return a + b;
            case "SUB": return a - b;
            case "SLL": case "SLLI": return a << b;
            case "SLT": case "SLTI": return a < b ? 1 : 0;
            case "SLTU": case "SLTIU": return Long.compareUnsigned(a, b) < 0 ? 1 : 0;
            case "XOR": case "XORI": return a ^ b;
            case "SRL": case "SRLI": return a >>> b;
            case "SRA": case "SRAI": return a >> b;
            case "OR": case "ORI": return a | b;
            case "AND": case "ANDI": return a & b;
            case "MUL": return a * b;
            case "DIVU": return b == 0 ? -1 : Long.divideUnsigned(a, b);
            case "REMU": return b == 0 ? a : Long.remainderUnsigned(a, b);
            case "ADDW": case "ADDIW": return u + v;
            case "SUBW": return u - v;
            case "SLLW": case "SLLIW": return u << v;
            case "SRLW": case "SRLIW": return u >>> v;
            case "SRAW": case "SRAIW": return u >> v;
            case "MULW": return u * v;
            case "DIVUW": return v == 0 ? -1 : Integer.divideUnsigned(u, v);
            case "REMUW": return v == 0 ? u : Integer.remainderUnsigned(u, v);
            case "BEQ": return a == b ? 1 : 0;
            case "BNE": return a != b ? 1 : 0;
            case "BLT": return a < b ? 1 : 0;
            case "BGE": return a >= b ? 1 : 0;
            case "BLTU": return Long.compareUnsigned(a, b) < 0 ? 1 : 0;
            default: return Long.compareUnsigned(a, b) >= 0 ? 1 : 0;
        }
    }

    private static final class Word {
        String name;
        int a;
        int b;
        int c;

        int coded() {
            return name.equals("LUI") ? lui(a, c) : name.equals("JAL") ? jal(a, c) : name.equals("ECALL") ? ECALL
                : name.equals("none") ? c : w(name, a, b, c);
        }
    }

    private static Word chosen(Random r, int i, int n) {
        int[] targets = {0, 10, 12, 13, 14, 15, 18, 19, 20, 21};
        int[] sources = {0, 8, 9, 10, 12, 13, 14, 15, 18, 19, 20, 21, 22};
        Word w = new Word();
        w.a = targets[r.nextInt(targets.length)];
        w.b = sources[r.nextInt(sources.length)];
        int kind = r.nextInt(20);
        if (kind < 7) {
            w.name = R[r.nextInt(R.length)];
            w.c = sources[r.nextInt(sources.length)];
        } else if (kind < 12) {
            w.name = I[r.nextInt(13)];
            w.c = w.name.startsWith("S") && !w.name.startsWith("SLT") ? r.nextInt(w.name.endsWith("W") ? 32 : 64)
                : r.nextInt(3) == 0 ? r.nextInt(4096) - 2048 : r.nextInt(9) - 4;
        } else if (kind < 14) {
            w.name = I[14 + r.nextInt(7)];
            boolean packet = r.nextBoolean();
            w.b = packet ? 8 : 22;
            w.c = packet ? r.nextInt(r.nextInt(4) == 0 ? 30 : 12) : -r.nextInt(r.nextInt(9) == 0 ? 70 : 60) - 4;
        } else if (kind < 16) {
            w.name = S[r.nextInt(4)];
            w.a = w.b;
            w.b = 22;
            w.c = -r.nextInt(r.nextInt(9) == 0 ? 70 : 57) - 8;
        } else if (kind < 18) {
            w.name = B[r.nextInt(B.length)];
            w.a = sources[r.nextInt(sources.length)];
            w.c = 4 * (r.nextInt(9) - (r.nextInt(3) == 0 ? 4 : 0));
        } else if (kind < 19) {
            w.name = "LUI";
            w.c = r.nextInt(1 << 20);
        } else if (r.nextInt(4) == 0) {
            w.name = "JALR";
            w.b = r.nextInt(9) == 0 ? w.b : 0;
            w.c = 4 * r.nextInt(n) + r.nextInt(2) + (r.nextInt(9) == 0 ? 2 : 0);
        } else {
            w.name = "JAL";
            w.c = 4 * (r.nextInt(8) - 2);
        }
        if (r.nextInt(60) == 0) {
            w.name = r.nextBoolean() ? "ECALL" : "none";
            w.c = 0x0200_1033;
        }
        return w;
    }

    private static long perform(Word[] words, int[] packet) {
        java.util.Arrays.fill(x, 0);
        java.util.Arrays.fill(stack, (byte) 0);
        x[8] = 65536;
        x[9] = packet.length;
        x[11] = packet.length;
        x[22] = 131136;
        trap = 0;
        steps = 0;
        at = 0;
        while (true) {
            if (steps == 100000) {
                trap = 9;
                return 0;
            }
            Word w = words[at];
            long next = 4L * at + 4;
            if (w.name.equals("none")) {
                trap = 1;
                return 0;
            } else if (w.name.equals("ECALL")) {
                steps++;
                return x[10];
            } else if (w.name.equals("LUI")) {
                x[w.a] = w.c << 12;
            } else if (w.name.equals("JAL")) {
                x[w.a] = next;
                next += w.c - 4;
            } else if (w.name.equals("JALR")) {
                long to = x[w.b] + w.c & ~1L;
                x[w.a] = next;
                next = to;
            } else if (find(B, w.name) >= 0) {
                next += second(w.name, x[w.a], x[w.b]) * (w.c - 4);
            } else if (find(S, w.name) >= 0) {
                long to = x[w.b] + w.c - 131072;
                int size = 1 << find(S, w.name);
                if (to < 0 || to > 64 - size) {
                    trap = 7;
                    return 0;
                }
                for (int k = 0; k < size; k++) {
                    stack[(int) to + k] = (byte) (x[w.a] >> 8 * k);
                }
            } else if (w.name.startsWith("L")) {
                int kind = find(I, w.name) - 14;
                int size = 1 << (kind & 3);
                long from = x[w.b] + w.c;
                boolean inPacket = from >= 65536 && from + size <= 65536 + packet.length;
                if (!inPacket && (from < 131072 || from + size > 131136)) {
                    trap = 7;
                    return 0;
                }
                long v = 0;
                for (int k = 0; k < size; k++) {
                    v |= (inPacket ? packet[(int) from - 65536 + k] : stack[(int) from - 131072 + k] & 255L) << 8 * k;
                }
                x[w.a] = kind == 0 ? (byte) v : kind == 1 ? (short) v : kind == 2 ? (int) v : v;
            } else {
                x[w.a] = second(w.name, x[w.b], find(R, w.name) >= 0 ? x[w.c] : w.c);
            }
            x[0] = 0;
            if (next < 0 || next % 4 != 0 || next >= 4L * words.length) {
                trap = 2;
                return 0;
            }
            steps++;
            at = (int) (next / 4);
        }
    }

    private static void byChance(int rounds) {
        int[] traps = new int[10];
        for (int round = 0; round < rounds && wrong < 20; round++) {
            Random r = new Random(round);
            Word[] words = new Word[10 + r.nextInt(60)];
            int[] coded = new int[words.length];
            for (int i = 0; i < words.length; i++) {
                words[i] = chosen(r, i, words.length);
                coded[i] = words[i].coded();
            }
            FilterForge f = new FilterForge();
            int[] packet = new int[r.nextInt(30)];
            for (int i = 0; i < packet.length; i++) {
                packet[i] = r.nextInt(256);
            }
            feed(f, packet);
            f.packet();
            due("raw", raw(f, coded), words.length);
            String name = "round " + round;
            due(name + ": word", f.word(3), coded[3]);
            due(name + ": emulate", f.emulate(0), perform(words, packet));
            due(name + ": trap", f.ended(0), trap);
            due(name + ": steps", f.ended(1), steps);
            due(name + ": place", f.ended(2), at);
            for (int i = 0; i < 32; i++) {
                due(name + ": register " + i, f.register(i), x[i]);
            }
            for (int i = 0; i < 64; i++) {
                due(name + ": stack " + i, f.stack(i), stack[i] & 255);
            }
            traps[trap]++;
        }
        System.out.println("words by chance: traps " + java.util.Arrays.toString(traps));
    }

    /** A filter of nearly 4000 INSTRUCTIONS, whose OBJECT goes far on from its first BLOCKS. */
    private static void longest() {
        FilterForge f = new FilterForge();
        feed(f, new int[] {0, 0, 0, 0, 0, 0, 0, 0, 0, 0, 0, 0, 8, 6});
        f.packet();
        feed(f, new int[] {0, 0, 0, 0, 0, 0, 0, 0, 0, 0, 0, 0, 8, 7});
        f.packet();
        StringBuilder text = new StringBuilder("not arp and (host 1.1.1.1");
        for (int i = 0; text.length() + 10 < 1200; i++) {
            text.append(" or port ").append(i % 10);
        }
        text.append(" or len = 14)");
        feed(f, text.chars().toArray());
        int length = f.compile();
        due("long", length > 3000 ? 1 : length, 1);
        due("verify", f.verify(), 0);
        int words = f.translate();
        due("many words", words > 20000 ? 1 : words, 1);
        due("count(2)", f.count(2), words);
        due("the last word", f.word(words - 1), ECALL);
        due("matches", f.matches(), 2);
        due("emulate 0", f.emulate(0), 0);
        due("emulate 1", f.emulate(1), 1);
        due("run 0", f.run(0), 0);
        due("run 1", f.run(1), 1);
    }

    public static void main(String[] args) {
        ops();
        jumps();
        memory();
        reads();
        refusals();
        traps();
        longest();
        byChance(args.length > 0 ? Integer.parseInt(args[0]) : 3000);
        System.exit(wrong == 0 ? 0 : 1);
    }
}
