import java.util.ArrayList;
import java.util.List;

/** The edges of OBJECT: making it, and running it (promises 12 to 18; Terms 5). */
public final class EdgeObjectTest extends Edge {
    private static final int ECALL = 0x73;
    private static final int NOP = 0x13;
    private static final long HALF = Long.MIN_VALUE;

    // As the manual has the WORDS: what they do is told by their lowest 7 bits, then by f3 and f7.
    private static int r(int kind, int f7, int f3, int rd, int rs1, int rs2) {
        return f7 << 25 | rs2 << 20 | rs1 << 15 | f3 << 12 | rd << 7 | kind;
    }

    private static int i(int kind, int f3, int rd, int rs1, int number) {
        return number << 20 | rs1 << 15 | f3 << 12 | rd << 7 | kind;
    }

    private static int s(int f3, int rs1, int rs2, int number) {
        return (number >> 5 & 127) << 25 | rs2 << 20 | rs1 << 15 | f3 << 12 | (number & 31) << 7 | 0x23;
    }

    private static int b(int f3, int rs1, int rs2, int by) {
        return (by >> 12 & 1) << 31 | (by >> 5 & 63) << 25 | rs2 << 20 | rs1 << 15 | f3 << 12 | (by >> 1 & 15) << 8
            | (by >> 11 & 1) << 7 | 0x63;
    }

    private static int lui(int rd, int upper) {
        return upper << 12 | rd << 7 | 0x37;
    }

    private static int jal(int rd, int by) {
        return (by >> 20 & 1) << 31 | (by >> 1 & 1023) << 21 | (by >> 11 & 1) << 20 | (by >> 12 & 255) << 12 | rd << 7 | 0x6f;
    }

    private static int addi(int rd, int rs1, int number) {
        return i(0x13, 0, rd, rs1, number);
    }

    private static int jalr(int rd, int rs1, int number) {
        return i(0x67, 0, rd, rs1, number);
    }

    /** A number of 64 bits in rd. */
    private static void constant(List<Integer> words, int rd, long number) {
        words.add(addi(rd, 0, 0));
        for (int shift = 56; shift >= 0; shift -= 8) {
            words.add(i(0x13, 1, rd, rd, 8));
            words.add(i(0x13, 6, rd, rd, (int) (number >> shift & 255)));
        }
    }

    private static int[] row(List<Integer> words) {
        return words.stream().mapToInt(Integer::intValue).toArray();
    }

    /** Packet 0 is 1 2 3 4 5 246 247 248 249 250; the words are loaded and run on it. */
    private static FilterForge ran(int... words) {
        FilterForge x = new FilterForge();
        packet(x, 1, 2, 3, 4, 5, 246, 247, 248, 249, 250);
        due("raw", raw(x, words), words.length);
        x.emulate(0);
        return x;
    }

    private static void answers(String name, long answer, int... words) {
        FilterForge x = ran(words);
        due(name + ": emulate", x.emulate(0), answer);
        due(name + ": trap", x.ended(0), 0);
    }

    private static void traps(String name, int trap, int steps, int place, int... words) {
        FilterForge x = ran(words);
        due(name + ": emulate", x.emulate(0), 0);
        due(name + ": trap", x.ended(0), trap);
        due(name + ": steps", x.ended(1), steps);
        due(name + ": place", x.ended(2), place);
    }

    /** What a WORD makes in x10 of x5 and x6. */
    private static void makes(String name, int word, long one, long other, long due) {
        List<Integer> words = new ArrayList<>();
        constant(words, 5, one);
        constant(words, 6, other);
        words.add(word);
        words.add(ECALL);
        answers(name, due, row(words));
    }

    private static void raws() {
        test("13: how many WORDS: 4 bytes are one, 2000 are 500", x -> {
            tape(x, 0x73, 0, 0, 0);
            due("raw()", x.raw(), 1);
            due("count(2)", x.count(2), 1);
            int[] cells = new int[2000];
            cells[1996] = 7;
            tape(x, cells);
            due("raw()", x.raw(), 500);
            due("word(499)", x.word(499), 7);
            due("word(500)", x.word(500), 0);
        });
        test("13: -1: it has none", x -> {
            due("raw()", x.raw(), -1);
            due("count(2)", x.count(2), 0);
        });
        test("13: -1: 4 does not divide it", x -> {
            for (int size = 1; size <= 21; size++) {
                tape(x, new int[size]);
                due("raw of " + size, x.raw(), size % 4 == 0 ? size / 4 : -1);
            }
        });
        test("13: OBJECT stays then", x -> {
            packetOf(x, 3);
            raw(x, addi(10, 0, 7), ECALL);
            due("raw()", x.raw(), -1);
            tape(x, 1, 2, 3);
            due("raw()", x.raw(), -1);
            due("count(2)", x.count(2), 2);
            due("word(1)", x.word(1), ECALL);
            due("emulate(0)", x.emulate(0), 7);
        });
        test("13: the TAPE is empty then, also if it was refused", x -> {
            raw(x, ECALL);
            due("count(3)", x.count(3), 0);
            tape(x, 1, 2, 3);
            x.raw();
            due("count(3)", x.count(3), 0);
        });
        test("13: the PROGRAM and what known() tells stay", x -> {
            load(x, "b7 0 0 0 7", END);
            x.verify();
            raw(x, ECALL);
            due("count(1)", x.count(1), 2);
            due("known(1, 0, 1)", x.known(1, 0, 1), 7);
        });
        test("14: 0 if there is none", x -> {
            due("word(0)", x.word(0), 0);
            raw(x, -1, 5);
            due("word(0)", x.word(0), -1);
            due("word(1)", x.word(1), 5);
            for (int k : new int[] {-1, 2, 500, 60000, Integer.MIN_VALUE, Integer.MAX_VALUE}) {
                due("word(" + k + ")", x.word(k), 0);
            }
            raw(x, 9);
            due("word(1)", x.word(1), 0);
        });
        test("14: the lowest byte first", x -> {
            tape(x, 1, 2, 3, 0x84);
            x.raw();
            due("word(0)", x.word(0), 0x84030201);
        });
    }

    private static void runs() {
        test("15: 0: there is no OBJECT: nothing is run", x -> {
            packetOf(x, 3);
            load(x, "b7 0 0 0 7", END);
            x.run(0);
            due("emulate(0)", x.emulate(0), 0);
            ended(x, 0, 2, 1);
            due("register(0)", x.register(0), 7);
            due("register(22)", x.register(22), 0);
        });
        test("15: 0: no such packet: nothing is run, what ended(), register(), stack() tell stays", x -> {
            packetOf(x, 3);
            raw(x, addi(10, 0, 7), s(0, 22, 10, -1), ECALL);
            due("emulate(0)", x.emulate(0), 7);
            raw(x, addi(10, 0, 8), ECALL);
            for (int p : new int[] {1, -1, 15, 16, Integer.MIN_VALUE, Integer.MAX_VALUE}) {
                due("emulate(" + p + ")", x.emulate(p), 0);
                ended(x, 0, 3, 2);
                due("register(10)", x.register(10), 7);
                due("stack(63)", x.stack(63), 7);
            }
        });
        test("At first: x8, x9, x11, x22; all else 0", x -> {
            packet(x);
            packetOf(x, 256);
            raw(x, ECALL);
            for (int p = 0; p < 2; p++) {
                x.emulate(p);
                for (int k = 0; k < 32; k++) {
                    due("register(" + k + ")", x.register(k), k == 8 ? 65536 : k == 9 || k == 11 ? 256 * p : k == 22 ? 131136 : 0);
                }
            }
        });
        test("At first: as at first in each run, the STACK, too", x -> {
            packetOf(x, 3);
            raw(x, addi(5, 5, 1), i(0x03, 3, 6, 22, -8), addi(6, 6, 1), s(3, 22, 6, -8), addi(9, 9, 1), ECALL);
            for (int k = 0; k < 2; k++) {
                x.emulate(0);
                due("register(5)", x.register(5), 1);
                due("register(6)", x.register(6), 1);
                due("register(9)", x.register(9), 4);
                due("stack(56)", x.stack(56), 1);
            }
        });
        test("At first: each REGISTER and each STACK byte behind one that changed all", x -> {
            packetOf(x, 3);
            List<Integer> words = new ArrayList<>();
            for (int k = 1; k < 32; k++) {
                if (k != 22) {
                    words.add(addi(k, 0, -1));
                }
            }
            for (int off = -64; off < 0; off += 8) {
                words.add(s(3, 22, 1, off));
            }
            words.add(addi(22, 0, -1));
            words.add(ECALL);
            raw(x, row(words));
            due("emulate(0)", x.emulate(0), -1);
            for (int k = 0; k < 32; k++) {
                due("register(" + k + ")", x.register(k), k == 0 ? 0 : -1);
            }
            for (int k = 0; k < 64; k++) {
                due("stack(" + k + ")", x.stack(k), 255);
            }
            raw(x, ECALL);
            x.emulate(0);
            for (int k = 0; k < 32; k++) {
                due("register(" + k + ") behind the next", x.register(k),
                    k == 8 ? 65536 : k == 9 || k == 11 ? 3 : k == 22 ? 131136 : 0);
            }
            for (int k = 0; k < 64; k++) {
                due("stack(" + k + ") behind the next", x.stack(k), 0);
            }
        });
        test("x0 is always 0", x -> {
            int[] words = {addi(0, 0, 5), lui(0, 5), i(0x03, 0, 0, 8, 0), i(0x1b, 0, 0, 0, 5), r(0x33, 0, 0, 0, 8, 8),
                r(0x3b, 0, 0, 0, 8, 8), i(0x13, 1, 0, 8, 1), jal(0, 4), r(0x33, 1, 5, 0, 8, 0)};
            for (int word : words) {
                FilterForge y = ran(word, addi(10, 0, 7), ECALL);
                due("emulate", y.emulate(0), 7);
                due("register(0)", y.register(0), 0);
            }
            FilterForge y = ran(addi(5, 0, 8), jalr(0, 5, 0), ECALL);
            due("trap", y.ended(0), 0);
            due("register(0)", y.register(0), 0);
        });
        test("x0: loading to it wants MEMORY all the same", x -> traps("LD", 7, 0, 0, i(0x03, 3, 0, 0, 0), ECALL));
        test("ECALL: the end; x10 is what it answers, of 64 bits", x -> {
            answers("0", 0, ECALL);
            answers("-1", -1, addi(10, 0, -1), ECALL);
            answers("2^63", HALF, addi(10, 0, 1), i(0x13, 1, 10, 10, 63), ECALL);
            ended(ran(ECALL), 0, 1, 0);
            ended(ran(NOP, ECALL, NOP), 0, 2, 1);
        });
        test("With a TRAP what it answers is 0; the REGISTERS and the STACK are told", x -> {
            FilterForge y = ran(addi(10, 0, 7), s(0, 22, 10, -64), 0, ECALL);
            due("emulate(0)", y.emulate(0), 0);
            ended(y, 1, 2, 2);
            due("register(10)", y.register(10), 7);
            due("stack(0)", y.stack(0), 7);
        });
        test("16, 17, 18 of emulate(): where there is none", x -> {
            FilterForge y = ran(addi(31, 0, 7), ECALL);
            due("register(31)", y.register(31), 7);
            due("register(32)", y.register(32), 0);
            due("register(-1)", y.register(-1), 0);
            due("ended(3)", y.ended(3), 0);
            due("ended(-1)", y.ended(-1), 0);
            due("stack(64)", y.stack(64), -1);
            due("stack(-1)", y.stack(-1), -1);
        });
    }

    private static boolean isWord(int kind, int f3, int f7) {
        switch (kind) {
            case 0x37: case 0x6f: return true;
            case 0x67: return f3 == 0;
            case 0x63: return f3 != 2 && f3 != 3;
            case 0x03: return f3 <= 6;
            case 0x23: return f3 <= 3;
            case 0x13: return f3 == 1 ? f7 <= 1 : f3 != 5 || f7 <= 1 || f7 == 32 || f7 == 33;
            case 0x1b: return f3 == 0 || f3 == 1 && f7 == 0 || f3 == 5 && (f7 == 0 || f7 == 32);
            case 0x33: return f7 == 0 || f7 == 32 && (f3 == 0 || f3 == 5) || f7 == 1 && (f3 == 0 || f3 == 5 || f3 == 7);
            case 0x3b: return f7 == 0 && (f3 == 0 || f3 == 1 || f3 == 5) || f7 == 32 && (f3 == 0 || f3 == 5)
                || f7 == 1 && (f3 == 0 || f3 == 5 || f3 == 7);
            default: return false;
        }
    }

    private static void missing() {
        test("TRAP 1: no such WORD: each of the lowest 7 bits, of f3, of f7", x -> {
            FilterForge y = new FilterForge();
            int calls = 0;
            for (int kind = 0; kind < 128; kind++) {
                for (int f3 = 0; f3 < 8; f3++) {
                    for (int f7 = 0; f7 < 128; f7++) {
                        boolean told = (kind & 3) == 3 && (kind & 0x1c) != 0x1c || f7 % 31 == 0;
                        if (!told) {
                            continue;
                        }
                        if (calls % 60 == 0) {
                            y = new FilterForge();
                            packetOf(y, 9);
                        }
                        calls++;
                        int word = f7 << 25 | f3 << 12 | 5 << 7 | 3 << 20 | kind;
                        raw(y, word, ECALL);
                        y.emulate(0);
                        boolean missing = y.ended(0) == 1 && y.ended(2) == 0;
                        if (missing == isWord(kind, f3, f7)) {
                            due("trap of kind " + kind + ", f3 " + f3 + ", f7 " + f7, missing ? 1 : 0, missing ? 0 : 1);
                        }
                    }
                }
            }
        });
        test("TRAP 1: ECALL is one WORD alone", x -> {
            for (int bit = 7; bit < 32; bit++) {
                traps("bit " + bit, 1, 0, 0, ECALL | 1 << bit, ECALL);
            }
        });
        test("TRAP 1: 0, -1, and what the manual has besides", x -> {
            traps("0", 1, 0, 0, 0, ECALL);
            traps("-1", 1, 0, 0, -1, ECALL);
            traps("AUIPC", 1, 0, 0, 5 << 7 | 0x17, ECALL);
            traps("FENCE", 1, 0, 0, 0x0ff0000f, ECALL);
            traps("EBREAK", 1, 0, 0, 0x00100073, ECALL);
            traps("MULH", 1, 0, 0, r(0x33, 1, 1, 5, 5, 5), ECALL);
            traps("MULHSU", 1, 0, 0, r(0x33, 1, 2, 5, 5, 5), ECALL);
            traps("MULHU", 1, 0, 0, r(0x33, 1, 3, 5, 5, 5), ECALL);
            traps("DIV", 1, 0, 0, r(0x33, 1, 4, 5, 5, 5), ECALL);
            traps("REM", 1, 0, 0, r(0x33, 1, 6, 5, 5, 5), ECALL);
            traps("DIVW", 1, 0, 0, r(0x3b, 1, 4, 5, 5, 5), ECALL);
            traps("REMW", 1, 0, 0, r(0x3b, 1, 6, 5, 5, 5), ECALL);
            traps("a short one", 1, 0, 0, 0x00010001, ECALL);
        });
        test("TRAP 1: only of what is come to", x -> answers("behind the end", 0, ECALL, 0));
        test("TRAP 1: SLLIW, SRLIW, SRAIW by more than 31", x -> {
            traps("SLLIW", 1, 0, 0, i(0x1b, 1, 5, 5, 32), ECALL);
            traps("SRLIW", 1, 0, 0, i(0x1b, 5, 5, 5, 32), ECALL);
            traps("SRAIW", 1, 0, 0, i(0x1b, 5, 5, 5, 1024 + 32), ECALL);
            answers("SLLIW", 0, i(0x1b, 1, 5, 5, 31), ECALL);
        });
    }

    private static void goings() {
        test("TRAP 2: JAL: below 0, behind the last one, not at 4 times", x -> {
            traps("-4", 2, 0, 0, jal(0, -4), ECALL);
            traps("-4 at 1", 2, 1, 1, NOP, jal(0, -8), ECALL);
            traps("behind", 2, 1, 1, NOP, jal(0, 8), ECALL);
            traps("2", 2, 0, 0, jal(0, 2), ECALL);
            traps("6", 2, 0, 0, jal(0, 6), ECALL, ECALL);
            traps("farthest", 2, 0, 0, jal(0, 1048574), ECALL);
            traps("farthest back", 2, 0, 0, jal(0, -1048576), ECALL);
            for (int bit = 8; bit <= 1 << 19; bit *= 2) {
                traps("by " + bit, 2, 0, 0, jal(0, bit), ECALL);
                traps("by -" + bit, 2, 0, 0, jal(0, -bit), ECALL);
            }
            ended(ran(NOP, jal(0, 4), ECALL), 0, 3, 2);
            ended(ran(jal(0, 8), 0, ECALL), 0, 2, 2);
            ended(ran(jal(0, 8), ECALL, jal(0, -4)), 0, 3, 1);
        });
        test("TRAP 2: JALR: likewise; its lowest bit is left out", x -> {
            traps("-4", 2, 0, 0, jalr(0, 0, -4), ECALL);
            traps("behind", 2, 0, 0, jalr(0, 0, 8), ECALL);
            traps("2", 2, 0, 0, jalr(0, 0, 2), ECALL);
            traps("3", 2, 0, 0, jalr(0, 0, 3), ECALL);
            traps("65536", 2, 0, 0, jalr(0, 8, 0), ECALL);
            ended(ran(jalr(0, 0, 4), ECALL), 0, 2, 1);
            ended(ran(jalr(0, 0, 5), ECALL), 0, 2, 1);
            ended(ran(addi(5, 0, -1), jalr(0, 5, 9), ECALL), 0, 3, 2);
            traps("2^63", 2, 2, 2, addi(5, 0, 1), i(0x13, 1, 5, 5, 63), jalr(0, 5, 12), ECALL);
            traps("2^34", 2, 2, 2, addi(5, 0, 1), i(0x13, 1, 5, 5, 34), jalr(0, 5, 12), ECALL);
            traps("2^32", 2, 2, 2, addi(5, 0, 1), i(0x13, 1, 5, 5, 32), jalr(0, 5, 12), ECALL);
        });
        test("TRAP 2: a branch that goes", x -> {
            traps("2", 2, 0, 0, b(0, 0, 0, 2), ECALL);
            traps("behind", 2, 0, 0, b(0, 0, 0, 8), ECALL);
            traps("-4", 2, 0, 0, b(0, 0, 0, -4), ECALL);
            traps("farthest", 2, 0, 0, b(0, 0, 0, 4094), ECALL);
            traps("farthest back", 2, 0, 0, b(0, 0, 0, -4096), ECALL);
            for (int bit = 8; bit <= 2048; bit *= 2) {
                traps("by " + bit, 2, 0, 0, b(0, 0, 0, bit), ECALL);
                traps("by -" + bit, 2, 0, 0, b(0, 0, 0, -bit), ECALL);
            }
        });
        test("TRAP 2: not of a branch that does not go", x -> {
            ended(ran(b(1, 0, 0, 2), ECALL), 0, 2, 1);
            ended(ran(b(1, 0, 0, -4096), ECALL), 0, 2, 1);
            ended(ran(b(1, 0, 0, 4094), ECALL), 0, 2, 1);
        });
        test("TRAP 2: the last one without going", x -> {
            traps("NOP", 2, 0, 0, NOP);
            traps("a branch", 2, 1, 1, NOP, b(1, 0, 0, -4));
            traps("ADDI", 2, 1, 1, NOP, addi(10, 0, 7));
            traps("LD", 2, 1, 1, NOP, i(0x03, 3, 5, 22, -8));
            traps("SD", 2, 1, 1, NOP, s(3, 22, 5, -8));
            ended(ran(NOP, jal(0, 8), ECALL, jal(0, -4)), 0, 4, 2);
        });
        test("TRAP 2: it goes: what the last one does is done, but is no STEP", x -> {
            FilterForge y = ran(NOP, addi(10, 0, 7));
            ended(y, 2, 1, 1);
            due("register(10)", y.register(10), 7);
        });
        test("JAL, JALR: the place behind it is kept", x -> {
            FilterForge y = ran(NOP, jal(1, 4), ECALL);
            due("register(1)", y.register(1), 8);
            y = ran(NOP, NOP, jalr(1, 0, 12), ECALL);
            due("register(1)", y.register(1), 12);
            y = ran(addi(5, 0, 12), jalr(5, 5, 0), 0, ECALL);
            due("register(5)", y.register(5), 8);
            ended(y, 0, 3, 3);
        });
        test("a branch: to itself, back, 4094 on", x -> {
            traps("to itself", 9, 100000, 0, b(0, 0, 0, 0), ECALL);
            answers("back", 3, addi(10, 10, 1), addi(5, 0, 3), b(1, 10, 5, -8), ECALL);
            int[] words = new int[500];
            words[0] = b(0, 0, 0, 1996);
            words[499] = ECALL;
            ended(ran(words), 0, 2, 499);
            words[0] = jal(0, 1996);
            ended(ran(words), 0, 2, 499);
            words[499] = jal(0, -1992);
            words[1] = ECALL;
            ended(ran(words), 0, 3, 1);
            words[499] = b(0, 0, 0, -1992);
            ended(ran(words), 0, 3, 1);
        });
        test("branches: which go, by sign and without", x -> {
            long[][] pairs = {{0, 0}, {0, 1}, {1, 0}, {-1, 0}, {0, -1}, {HALF, HALF - 1}, {HALF - 1, HALF}, {-1, -1}};
            int[] kinds = {0, 1, 4, 5, 6, 7};
            boolean[][] go = {
                {true, false, false, false, false, false, false, true},
                {false, true, true, true, true, true, true, false},
                {false, true, false, true, false, true, false, false},
                {true, false, true, false, true, false, true, true},
                {false, true, false, false, true, false, true, false},
                {true, false, true, true, false, true, false, true}};
            for (int k = 0; k < 6; k++) {
                for (int p = 0; p < pairs.length; p++) {
                    List<Integer> words = new ArrayList<>();
                    constant(words, 5, pairs[p][0]);
                    constant(words, 6, pairs[p][1]);
                    words.add(b(kinds[k], 5, 6, 8));
                    words.add(addi(10, 0, 1));
                    words.add(ECALL);
                    answers("branch " + kinds[k] + " of " + pairs[p][0] + ", " + pairs[p][1], go[k][p] ? 0 : 1, row(words));
                }
            }
        });
        test("TRAP 9: it has done 100000: the end may be the 100000th", x -> {
            // 3 + 2 * 49998 + 1
            FilterForge y = ran(NOP, lui(6, 12), i(0x1b, 0, 6, 6, 846), addi(10, 10, 1), b(1, 10, 6, -4), ECALL);
            due("emulate(0)", y.emulate(0), 49998);
            ended(y, 0, 100000, 5);
        });
        test("TRAP 9: told ahead of the 100001st, also of the end, and of one with another TRAP", x -> {
            FilterForge y = ran(NOP, NOP, lui(6, 12), i(0x1b, 0, 6, 6, 846), addi(10, 10, 1), b(1, 10, 6, -4), ECALL);
            due("emulate(0)", y.emulate(0), 0);
            ended(y, 9, 100000, 6);
            due("register(10)", y.register(10), 49998);
            y = ran(NOP, NOP, lui(6, 12), i(0x1b, 0, 6, 6, 846), addi(10, 10, 1), b(1, 10, 6, -4), 0);
            ended(y, 9, 100000, 6);
            y = ran(NOP, lui(6, 12), i(0x1b, 0, 6, 6, 846), addi(10, 10, 1), b(1, 10, 6, -4), 0);
            ended(y, 1, 99999, 5);
            y = ran(NOP, lui(6, 12), i(0x1b, 0, 6, 6, 846), addi(10, 10, 1), b(1, 10, 6, -4), NOP);
            ended(y, 2, 99999, 5);
        });
        test("TRAP 9: not of what goes 10000", x -> {
            FilterForge y = ran(lui(6, 2), addi(10, 10, 1), b(1, 10, 6, -4), ECALL);
            due("emulate(0)", y.emulate(0), 8192);
            ended(y, 0, 1 + 2 * 8192 + 1, 3);
        });
    }

    private static void memory() {
        test("MEMORY: the packet, at places 65536 to 65535 + L: loading, each size, each place", x -> {
            for (int f3 = 0; f3 <= 6; f3++) {
                int size = 1 << (f3 & 3);
                for (int off = -9; off <= 12; off++) {
                    boolean is = off >= 0 && off + size <= 10;
                    ended(ran(i(0x03, f3, 5, 8, off), ECALL), is ? 0 : 7, is ? 2 : 0, is ? 1 : 0);
                }
            }
        });
        test("MEMORY: the packet is only read", x -> {
            for (int f3 = 0; f3 <= 3; f3++) {
                for (int off = -8; off <= 12; off++) {
                    traps("store", 7, 0, 0, s(f3, 8, 8, off), ECALL);
                }
            }
        });
        test("MEMORY: a packet of 0 bytes is none, one of 256 has 256", x -> {
            packet(x);
            packetOf(x, 256);
            raw(x, i(0x03, 4, 10, 8, 0), ECALL);
            x.emulate(0);
            ended(x, 7, 0, 0);
            due("emulate(1)", x.emulate(1), 0);
            ended(x, 0, 2, 1);
            raw(x, i(0x03, 4, 10, 8, 255), ECALL);
            due("emulate(1)", x.emulate(1), 255);
            raw(x, i(0x03, 4, 10, 8, 256), ECALL);
            x.emulate(1);
            ended(x, 7, 0, 0);
            raw(x, i(0x03, 3, 10, 8, 248), ECALL);
            due("emulate(1)", x.emulate(1), 0xfffefdfcfbfaf9f8L);
            raw(x, i(0x03, 3, 10, 8, 249), ECALL);
            x.emulate(1);
            ended(x, 7, 0, 0);
        });
        test("MEMORY: the STACK: loading and storing, each size, each place, also such that a size does not divide", x -> {
            for (int off = -73; off <= 8; off++) {
                for (int f3 = 0; f3 <= 6; f3++) {
                    int size = 1 << (f3 & 3);
                    boolean is = off >= -64 && off + size <= 0;
                    ended(ran(i(0x03, f3, 5, 22, off), ECALL), is ? 0 : 7, is ? 2 : 0, is ? 1 : 0);
                    if (f3 <= 3) {
                        FilterForge y = ran(s(f3, 22, 22, off), ECALL);
                        ended(y, is ? 0 : 7, is ? 2 : 0, is ? 1 : 0);
                        for (int k = 0; k < 64; k++) {
                            int part = k - 64 - off;
                            due("stack(" + k + ")", y.stack(k), is && part >= 0 && part < size ? 131136L >> 8 * part & 255 : 0);
                        }
                    }
                }
            }
        });
        test("MEMORY that is not there: 0, -1, behind both, and by a wrap", x -> {
            traps("0", 7, 0, 0, i(0x03, 0, 5, 0, 0), ECALL);
            traps("-1", 7, 0, 0, i(0x03, 0, 5, 0, -1), ECALL);
            traps("-8", 7, 0, 0, i(0x03, 3, 5, 0, -8), ECALL);
            traps("store 0", 7, 0, 0, s(3, 0, 0, 0), ECALL);
            traps("2^32 more", 7, 3, 3, addi(5, 0, 1), i(0x13, 1, 5, 5, 32), r(0x33, 0, 0, 5, 5, 22), i(0x03, 0, 6, 5, -1), ECALL);
            traps("2^63 more", 7, 3, 3, addi(5, 0, 1), i(0x13, 1, 5, 5, 63), r(0x33, 0, 0, 5, 5, 8), i(0x03, 0, 6, 5, 0), ECALL);
            traps("greatest", 7, 3, 3, addi(5, 0, -1), i(0x13, 5, 5, 5, 1), NOP, i(0x03, 3, 6, 5, 1), ECALL);
        });
        test("TRAP 7: it does nothing", x -> {
            FilterForge y = ran(addi(5, 0, 7), i(0x03, 3, 5, 8, 3), ECALL);
            due("register(5)", y.register(5), 7);
            y = ran(s(3, 22, 22, -7), ECALL);
            for (int k = 0; k < 64; k++) {
                due("stack(" + k + ")", y.stack(k), 0);
            }
        });
        test("LB, LH, LW with sign, LBU, LHU, LWU without, LD: the lowest byte first", x -> {
            answers("LB", 5, i(0x03, 0, 10, 8, 4), ECALL);
            answers("LB", -10, i(0x03, 0, 10, 8, 5), ECALL);
            answers("LBU", 246, i(0x03, 4, 10, 8, 5), ECALL);
            answers("LH", 0x0201, i(0x03, 1, 10, 8, 0), ECALL);
            answers("LH", (short) 0xf605, i(0x03, 1, 10, 8, 4), ECALL);
            answers("LHU", 0xf605, i(0x03, 5, 10, 8, 4), ECALL);
            answers("LW", 0x04030201, i(0x03, 2, 10, 8, 0), ECALL);
            answers("LW", 0xf6050403, i(0x03, 2, 10, 8, 2), ECALL);
            answers("LWU", 0xf6050403L, i(0x03, 6, 10, 8, 2), ECALL);
            answers("LD", 0xf8f7f60504030201L, i(0x03, 3, 10, 8, 0), ECALL);
        });
        test("SB, SH, SW, SD: the lowest bytes", x -> {
            for (int f3 = 0; f3 <= 3; f3++) {
                long mask = f3 == 3 ? -1 : (1L << (8 << f3)) - 1;
                answers("store", -2 & mask, addi(5, 0, -2), s(f3, 22, 5, -8), i(0x03, 3, 10, 22, -8), ECALL);
            }
        });
        test("loading and storing by -2048 and 2047", x -> {
            answers("2047", 1, addi(5, 8, -2047), i(0x03, 4, 10, 5, 2047), ECALL);
            answers("-2048", 1, addi(5, 8, 2047), addi(5, 5, 1), i(0x03, 4, 10, 5, -2048), ECALL);
            answers("store 2047", 9, addi(6, 0, 9), addi(5, 22, -2048), s(0, 5, 6, 2047), i(0x03, 4, 10, 22, -1), ECALL);
            answers("store -2048", 9, addi(6, 0, 9), addi(5, 22, 2047), s(0, 5, 6, -2048), i(0x03, 4, 10, 22, -1), ECALL);
        });
    }

    private static void numbers() {
        test("ADDI, ADDIW: -2048 and 2047; the edges of 64 and 32 bits", x -> {
            makes("ADDI", addi(10, 5, 2047), 1, 0, 2048);
            makes("ADDI", addi(10, 5, -2048), 0, 0, -2048);
            makes("ADDI", addi(10, 5, 1), -1, 0, 0);
            makes("ADDI", addi(10, 5, 1), Long.MAX_VALUE, 0, HALF);
            makes("ADDIW", i(0x1b, 0, 10, 5, 1), 0x7fffffff, 0, 0xffffffff80000000L);
            makes("ADDIW", i(0x1b, 0, 10, 5, 0), 0x80000000L, 0, 0xffffffff80000000L);
            makes("ADDIW", i(0x1b, 0, 10, 5, 0), 0x100000005L, 0, 5);
            makes("ADDIW", i(0x1b, 0, 10, 5, -1), 0x100000000L, 0, -1);
        });
        test("SLTI with sign, SLTIU without, of -1, too", x -> {
            makes("SLTI", i(0x13, 2, 10, 5, -1), -2, 0, 1);
            makes("SLTI", i(0x13, 2, 10, 5, -1), -1, 0, 0);
            makes("SLTI", i(0x13, 2, 10, 5, -1), 0, 0, 0);
            makes("SLTI", i(0x13, 2, 10, 5, 0), HALF, 0, 1);
            makes("SLTIU", i(0x13, 3, 10, 5, -1), -2, 0, 1);
            makes("SLTIU", i(0x13, 3, 10, 5, -1), -1, 0, 0);
            makes("SLTIU", i(0x13, 3, 10, 5, -1), 0, 0, 1);
            makes("SLTIU", i(0x13, 3, 10, 5, 1), 0, 0, 1);
            makes("SLTIU", i(0x13, 3, 10, 5, 1), 1, 0, 0);
            makes("SLTIU", i(0x13, 3, 10, 5, -2048), 0x7ffL, 0, 1);
        });
        test("XORI, ORI, ANDI: -1 and -2048 with their sign", x -> {
            makes("XORI", i(0x13, 4, 10, 5, -1), 5, 0, -6);
            makes("ORI", i(0x13, 6, 10, 5, -2048), 5, 0, -2043);
            makes("ANDI", i(0x13, 7, 10, 5, -2048), -1, 0, -2048);
            makes("ANDI", i(0x13, 7, 10, 5, 2047), -1, 0, 2047);
        });
        test("SLLI, SRLI, SRAI by 0 and 63", x -> {
            makes("SLLI", i(0x13, 1, 10, 5, 0), -1, 0, -1);
            makes("SLLI", i(0x13, 1, 10, 5, 63), -1, 0, HALF);
            makes("SLLI", i(0x13, 1, 10, 5, 32), 1, 0, 1L << 32);
            makes("SRLI", i(0x13, 5, 10, 5, 0), -1, 0, -1);
            makes("SRLI", i(0x13, 5, 10, 5, 63), -1, 0, 1);
            makes("SRLI", i(0x13, 5, 10, 5, 32), -1, 0, 0xffffffffL);
            makes("SRAI", i(0x13, 5, 10, 5, 1024), HALF, 0, HALF);
            makes("SRAI", i(0x13, 5, 10, 5, 1024 + 63), HALF, 0, -1);
            makes("SRAI", i(0x13, 5, 10, 5, 1024 + 32), HALF, 0, HALF >> 32);
            makes("SRAI", i(0x13, 5, 10, 5, 1024 + 63), Long.MAX_VALUE, 0, 0);
        });
        test("SLLIW, SRLIW, SRAIW by 0 and 31", x -> {
            makes("SLLIW", i(0x1b, 1, 10, 5, 31), 1, 0, 0xffffffff80000000L);
            makes("SLLIW", i(0x1b, 1, 10, 5, 0), 0x100000001L, 0, 1);
            makes("SLLIW", i(0x1b, 1, 10, 5, 1), 0x80000001L, 0, 2);
            makes("SRLIW", i(0x1b, 5, 10, 5, 0), 0x80000000L, 0, 0xffffffff80000000L);
            makes("SRLIW", i(0x1b, 5, 10, 5, 1), 0x80000000L, 0, 0x40000000L);
            makes("SRLIW", i(0x1b, 5, 10, 5, 31), -1, 0, 1);
            makes("SRAIW", i(0x1b, 5, 10, 5, 1024 + 31), 0x80000000L, 0, -1);
            makes("SRAIW", i(0x1b, 5, 10, 5, 1024), 0x80000000L, 0, 0xffffffff80000000L);
            makes("SRAIW", i(0x1b, 5, 10, 5, 1024 + 31), 0x7fffffff, 0, 0);
        });
        test("LUI: with its sign", x -> {
            makes("LUI", lui(10, 0x7ffff), 0, 0, 0x7ffff000);
            makes("LUI", lui(10, 0x80000), 0, 0, 0xffffffff80000000L);
            makes("LUI", lui(10, 0xfffff), 0, 0, -4096);
            makes("LUI", lui(10, 0), 0, 0, 0);
        });
        test("ADD, SUB, MUL: the edges of 64 bits", x -> {
            makes("ADD", r(0x33, 0, 0, 10, 5, 6), -1, 1, 0);
            makes("SUB", r(0x33, 32, 0, 10, 5, 6), 0, 1, -1);
            makes("SUB", r(0x33, 32, 0, 10, 5, 6), HALF, 1, Long.MAX_VALUE);
            makes("MUL", r(0x33, 1, 0, 10, 5, 6), -1, -1, 1);
            makes("MUL", r(0x33, 1, 0, 10, 5, 6), 1L << 32, 1L << 32, 0);
            makes("MUL", r(0x33, 1, 0, 10, 5, 6), 0xffffffffL, 0xffffffffL, 0xfffffffe00000001L);
        });
        test("DIVU, REMU: by 0, and of the greatest numbers", x -> {
            makes("DIVU", r(0x33, 1, 5, 10, 5, 6), 7, 0, -1);
            makes("DIVU", r(0x33, 1, 5, 10, 5, 6), 0, 0, -1);
            makes("DIVU", r(0x33, 1, 5, 10, 5, 6), -1, 2, Long.MAX_VALUE);
            makes("DIVU", r(0x33, 1, 5, 10, 5, 6), HALF, -1, 0);
            makes("DIVU", r(0x33, 1, 5, 10, 5, 6), -1, HALF, 1);
            makes("REMU", r(0x33, 1, 7, 10, 5, 6), 7, 0, 7);
            makes("REMU", r(0x33, 1, 7, 10, 5, 6), -1, 0, -1);
            makes("REMU", r(0x33, 1, 7, 10, 5, 6), -1, HALF, Long.MAX_VALUE);
            makes("REMU", r(0x33, 1, 7, 10, 5, 6), -1, 10, 5);
        });
        test("SLL, SRL, SRA by the lowest 6 bits", x -> {
            makes("SLL", r(0x33, 0, 1, 10, 5, 6), 1, 63, HALF);
            makes("SLL", r(0x33, 0, 1, 10, 5, 6), 1, 64, 1);
            makes("SLL", r(0x33, 0, 1, 10, 5, 6), 1, -1, HALF);
            makes("SRL", r(0x33, 0, 5, 10, 5, 6), -1, 63, 1);
            makes("SRL", r(0x33, 0, 5, 10, 5, 6), -1, 64, -1);
            makes("SRA", r(0x33, 32, 5, 10, 5, 6), HALF, 63, -1);
            makes("SRA", r(0x33, 32, 5, 10, 5, 6), HALF, 64, HALF);
            makes("SRA", r(0x33, 32, 5, 10, 5, 6), Long.MAX_VALUE, 62, 1);
        });
        test("SLT with sign, SLTU without", x -> {
            makes("SLT", r(0x33, 0, 2, 10, 5, 6), -1, 0, 1);
            makes("SLT", r(0x33, 0, 2, 10, 5, 6), 0, -1, 0);
            makes("SLT", r(0x33, 0, 2, 10, 5, 6), 5, 5, 0);
            makes("SLT", r(0x33, 0, 2, 10, 5, 6), HALF, Long.MAX_VALUE, 1);
            makes("SLTU", r(0x33, 0, 3, 10, 5, 6), -1, 0, 0);
            makes("SLTU", r(0x33, 0, 3, 10, 5, 6), 0, -1, 1);
            makes("SLTU", r(0x33, 0, 3, 10, 5, 6), 5, 5, 0);
            makes("SLTU", r(0x33, 0, 3, 10, 5, 6), HALF, Long.MAX_VALUE, 0);
        });
        test("XOR, OR, AND", x -> {
            makes("XOR", r(0x33, 0, 4, 10, 5, 6), -1, HALF, Long.MAX_VALUE);
            makes("OR", r(0x33, 0, 6, 10, 5, 6), 1, HALF, HALF + 1);
            makes("AND", r(0x33, 0, 7, 10, 5, 6), -1, HALF, HALF);
        });
        test("ADDW, SUBW, MULW: of 32 bits, with its sign", x -> {
            makes("ADDW", r(0x3b, 0, 0, 10, 5, 6), 0x7fffffff, 1, 0xffffffff80000000L);
            makes("ADDW", r(0x3b, 0, 0, 10, 5, 6), 0xffffffffL, 1, 0);
            makes("SUBW", r(0x3b, 32, 0, 10, 5, 6), 0, 1, -1);
            makes("SUBW", r(0x3b, 32, 0, 10, 5, 6), 0x80000000L, 1, 0x7fffffff);
            makes("MULW", r(0x3b, 1, 0, 10, 5, 6), 65536, 65536, 0);
            makes("MULW", r(0x3b, 1, 0, 10, 5, 6), 65536, 32768, 0xffffffff80000000L);
            makes("MULW", r(0x3b, 1, 0, 10, 5, 6), 0xffffffffL, 0xffffffffL, 1);
        });
        test("DIVUW, REMUW: by 0, and with the sign of 32 bits", x -> {
            makes("DIVUW", r(0x3b, 1, 5, 10, 5, 6), 7, 0, -1);
            makes("DIVUW", r(0x3b, 1, 5, 10, 5, 6), 7, 1L << 32, -1);
            makes("DIVUW", r(0x3b, 1, 5, 10, 5, 6), 0xffffffffL, 1, -1);
            makes("DIVUW", r(0x3b, 1, 5, 10, 5, 6), 0x80000000L, 1, 0xffffffff80000000L);
            makes("DIVUW", r(0x3b, 1, 5, 10, 5, 6), -1, 2, 0x7fffffff);
            makes("REMUW", r(0x3b, 1, 7, 10, 5, 6), 7, 0, 7);
            makes("REMUW", r(0x3b, 1, 7, 10, 5, 6), 0xffffffffL, 0, -1);
            makes("REMUW", r(0x3b, 1, 7, 10, 5, 6), 0x500000007L, 1L << 32, 7);
            makes("REMUW", r(0x3b, 1, 7, 10, 5, 6), 0x80000000L, 0x80000001L, 0xffffffff80000000L);
        });
        test("SLLW, SRLW, SRAW by the lowest 5 bits", x -> {
            makes("SLLW", r(0x3b, 0, 1, 10, 5, 6), 1, 31, 0xffffffff80000000L);
            makes("SLLW", r(0x3b, 0, 1, 10, 5, 6), 1, 32, 1);
            makes("SLLW", r(0x3b, 0, 1, 10, 5, 6), 1, -1, 0xffffffff80000000L);
            makes("SRLW", r(0x3b, 0, 5, 10, 5, 6), -1, 31, 1);
            makes("SRLW", r(0x3b, 0, 5, 10, 5, 6), 0xffffffffL, 32, -1);
            makes("SRLW", r(0x3b, 0, 5, 10, 5, 6), 1L << 32, 1, 0);
            makes("SRAW", r(0x3b, 32, 5, 10, 5, 6), 0x80000000L, 31, -1);
            makes("SRAW", r(0x3b, 32, 5, 10, 5, 6), 0x80000000L, 32, 0xffffffff80000000L);
            makes("SRAW", r(0x3b, 32, 5, 10, 5, 6), 0x7fffffff, 31, 0);
        });
    }

    /** r0 to r10. */
    private static int at(int register) {
        return register <= 5 ? 10 + register : 12 + register;
    }

    private static void li(List<Integer> words, int rd, int k) {
        if (k >= -2048 && k <= 2047) {
            words.add(addi(rd, 0, k));
        } else {
            long upper = (long) k + 2048 >> 12;
            words.add(lui(rd, (int) (upper & 0xfffff)));
            words.add(i(0x1b, 0, rd, rd, (int) (k - (upper << 12))));
        }
    }

    /** The rows become the words; r6 and r7 are NUMBERS and eight STACK bytes SET ahead of them. */
    private static void becomes(String text, int[] words, String... rows) {
        List<String> all = new ArrayList<>(List.of("b7 0 0 0 0", "bf 6 1 0 0", "bf 7 1 0 0", "7a a 0 -8 0"));
        all.addAll(List.of(rows));
        all.add("b7 0 0 0 0");
        all.add(END);
        List<Integer> due = new ArrayList<>(List.of(addi(10, 0, 0), addi(18, 11, 0), addi(19, 11, 0), addi(5, 0, -8),
            r(0x33, 0, 0, 5, 5, 22), addi(6, 0, 0), s(3, 5, 6, 0)));
        for (int word : words) {
            due.add(word);
        }
        due.add(addi(10, 0, 0));
        due.add(ECALL);
        FilterForge x = new FilterForge();
        load(x, all.toArray(new String[0]));
        due("translate of " + text, x.translate(), due.size());
        due("count(2) of " + text, x.count(2), due.size());
        for (int k = 0; k < due.size(); k++) {
            due("word " + k + " of " + text, x.word(k), due.get(k));
        }
        due("behind the last of " + text, x.word(due.size()), 0);
    }

    private static void translating() {
        test("12: -1: there is none", x -> {
            due("translate()", x.translate(), -1);
            due("count(2)", x.count(2), 0);
        });
        test("12: -1: it is not ACCEPTED: each OFFENCE", x -> {
            String[][] programs = {{"0 0 0 0 0"}, {"b7 0 0 0 0"}, {END}, {"b7 a 0 0 0", END}, {"bf 0 a 0 0", END},
                {"71 0 1 0 0", END}};
            int[] offences = {1, 2, 4, 5, 16 + 6, 7};
            raw(x, addi(10, 0, 7), ECALL);
            for (int k = 0; k < programs.length; k++) {
                load(x, programs[k]);
                due("translate()", x.translate(), -1);
                due("verify()", x.verify(), offences[k]);
                due("translate()", x.translate(), -1);
                due("count(2)", x.count(2), 2);
                due("word(0)", x.word(0), addi(10, 0, 7));
            }
        });
        test("12: how many WORDS, without verify(); the PROGRAM and what known() tells stay", x -> {
            load(x, "b7 0 0 0 7", END);
            due("translate()", x.translate(), 2);
            due("count(1)", x.count(1), 2);
            due("known(0, 1, 0)", x.known(0, 1, 0), -1);
            due("translate()", x.translate(), 2);
        });
        test("12: a shorter one behind a longer one", x -> {
            compile(x, "port 1");
            int words = x.translate();
            due("translate()", words > 100 ? 1 : 0, 1);
            load(x, "b7 0 0 0 7", END);
            due("translate()", x.translate(), 2);
            due("word(2)", x.word(2), 0);
        });
        test("12: the longest PROGRAMS, by load() and by compile()", x -> {
            String[] rows = new String[250];
            java.util.Arrays.fill(rows, "b7 0 0 0 4096");
            rows[249] = END;
            load(x, rows);
            due("translate()", x.translate(), 499);
            due("word(498)", x.word(498), ECALL);
            compile(x, "port 1" + " or port 1".repeat(136) + " or 1=2".repeat(11));
            due("count(1)", x.count(1), 4000);
            int words = x.translate();
            due("translate()", words > 4000 && words <= 60000 ? 1 : 0, 1);
            due("last word", x.word(words - 1), ECALL);
            due("behind it", x.word(words), 0);
            packetOf(x, 60);
            due("emulate(0)", x.emulate(0), 0);
            due("ended(0)", x.ended(0), 0);
        });
        test("LI: -2048 to 2047 by ADDI, those beside them by LUI and ADDIW", x -> {
            int[][] words = {{addi(5, 0, -2048)}, {lui(5, 0xfffff), i(0x1b, 0, 5, 5, 2047)}, {addi(5, 0, 2047)},
                {lui(5, 1), i(0x1b, 0, 5, 5, -2048)}, {addi(5, 0, 0)}, {addi(5, 0, -1)}, {lui(5, 1), i(0x1b, 0, 5, 5, 0)},
                {lui(5, 0x80000), i(0x1b, 0, 5, 5, -1)}, {lui(5, 0x80000), i(0x1b, 0, 5, 5, 0)},
                {lui(5, 0xfffff), i(0x1b, 0, 5, 5, 0)}, {lui(5, 0x7ffff), i(0x1b, 0, 5, 5, 2047)},
                {lui(5, 0x80000), i(0x1b, 0, 5, 5, -2048)}, {lui(5, 2), i(0x1b, 0, 5, 5, -2048)}, {lui(5, 1), i(0x1b, 0, 5, 5, 2047)}};
            int[] ks = {-2048, -2049, 2047, 2048, 0, -1, 4096, 2147483647, -2147483648, -4096, 0x7ffff7ff, 0x7ffff800, 6144, 6143};
            for (int k = 0; k < ks.length; k++) {
                int[] with = java.util.Arrays.copyOf(words[k], words[k].length + 1);
                with[words[k].length] = r(0x33, 0, 0, 18, 18, 5);
                becomes("+ " + ks[k], with, "7 6 0 0 " + ks[k]);
            }
        });
        test("LI: what it makes is K with its sign", x -> {
            packetOf(x, 3);
            for (int k : new int[] {-2048, -2049, 2047, 2048, 4096, 2147483647, -2147483648, -4096, 0x7ffff7ff, 0x7ffff800, 6144,
                -6145, -2147481600, -2147481601}) {
                load(x, "b7 0 0 0 " + k, END);
                x.translate();
                due("emulate of " + k, x.emulate(0), k);
                load(x, "b4 0 0 0 " + k, END);
                x.translate();
                due("emulate of 32 bits of " + k, x.emulate(0), k & 0xffffffffL);
            }
        });
        test("op 11: of K LI D, K alone; ADDI D, S, 0; of 32 bits ZX D", x -> {
            int[] zx = {i(0x13, 1, 18, 18, 32), i(0x13, 5, 18, 18, 32)};
            becomes("K", new int[] {addi(18, 0, -2048)}, "b7 6 0 0 -2048");
            becomes("K", new int[] {lui(18, 1), i(0x1b, 0, 18, 18, -2048)}, "b7 6 0 0 2048");
            becomes("K of 32 bits", new int[] {addi(18, 0, -1), zx[0], zx[1]}, "b4 6 0 0 -1");
            becomes("S", new int[] {addi(18, 19, 0)}, "bf 6 7 0 0");
            becomes("S of 32 bits", new int[] {addi(18, 19, 0), zx[0], zx[1]}, "bc 6 7 0 0");
        });
        test("ops of 64 and of 32 bits, by S and by K", x -> {
            int[] ops = {0, 1, 2, 4, 5, 6, 7, 9, 10, 12};
            int[] f7 = {0, 32, 1, 0, 0, 0, 0, 1, 0, 32};
            int[] f3 = {0, 0, 0, 6, 7, 1, 5, 7, 4, 5};
            int[] zx = {i(0x13, 1, 18, 18, 32), i(0x13, 5, 18, 18, 32)};
            for (int k = 0; k < ops.length; k++) {
                int op = ops[k];
                int kind = op == 4 || op == 5 || op == 10 ? 0x33 : 0x3b;
                becomes("op " + op, new int[] {r(0x33, f7[k], f3[k], 18, 18, 19)}, Integer.toHexString(op << 4 | 15) + " 6 7 0 0");
                becomes("op " + op, new int[] {addi(5, 0, -2048), r(0x33, f7[k], f3[k], 18, 18, 5)},
                    Integer.toHexString(op << 4 | 7) + " 6 0 0 -2048");
                becomes("op " + op, new int[] {r(kind, f7[k], f3[k], 18, 18, 19), zx[0], zx[1]},
                    Integer.toHexString(op << 4 | 12) + " 6 7 0 0");
                becomes("op " + op, new int[] {lui(5, 1), i(0x1b, 0, 5, 5, -2048), r(kind, f7[k], f3[k], 18, 18, 5), zx[0], zx[1]},
                    Integer.toHexString(op << 4 | 4) + " 6 0 0 2048");
            }
        });
        test("op 3, which has no TRAP by 0", x -> {
            int[] zx = {i(0x13, 1, 18, 18, 32), i(0x13, 5, 18, 18, 32)};
            becomes("S", new int[] {b(0, 19, 0, 12), r(0x33, 1, 5, 18, 18, 19), jal(0, 8), addi(18, 0, 0)}, "3f 6 7 0 0");
            becomes("K", new int[] {addi(5, 0, 0), b(0, 5, 0, 12), r(0x33, 1, 5, 18, 18, 5), jal(0, 8), addi(18, 0, 0)}, "37 6 0 0 0");
            becomes("S of 32 bits", new int[] {i(0x1b, 0, 6, 19, 0), b(0, 6, 0, 12), r(0x3b, 1, 5, 18, 18, 6), jal(0, 8), addi(18, 0, 0),
                zx[0], zx[1]}, "3c 6 7 0 0");
            becomes("K of 32 bits", new int[] {addi(5, 0, 7), i(0x1b, 0, 6, 5, 0), b(0, 6, 0, 12), r(0x3b, 1, 5, 18, 18, 6), jal(0, 8),
                addi(18, 0, 0), zx[0], zx[1]}, "34 6 0 0 7");
        });
        test("op 8", x -> {
            becomes("64", new int[] {r(0x33, 32, 0, 18, 0, 18)}, "87 6 0 0 0");
            becomes("32", new int[] {r(0x3b, 32, 0, 18, 0, 18), i(0x13, 1, 18, 18, 32), i(0x13, 5, 18, 18, 32)}, "84 6 0 0 0");
        });
        test("those that go: always, to the next one and over others", x -> {
            becomes("next", new int[] {jal(0, 4)}, "5 0 0 0 0");
            becomes("over one of 2 WORDS", new int[] {jal(0, 12), lui(18, 1), i(0x1b, 0, 18, 18, 0)}, "5 0 0 1 0", "b7 6 0 0 4096");
        });
        test("those that go, else: a branch over the next, by 8, if it does not hold", x -> {
            int[] ops = {1, 5, 2, 3, 10, 11, 6, 7, 12, 13};
            int[] f3 = {1, 0, 7, 6, 7, 6, 5, 4, 5, 4};
            boolean[] turned = {false, false, true, false, false, true, true, false, false, true};
            for (int k = 0; k < ops.length; k++) {
                int op = ops[k];
                becomes("S " + op, new int[] {turned[k] ? b(f3[k], 19, 18, 8) : b(f3[k], 18, 19, 8), jal(0, 4)},
                    Integer.toHexString(op << 4 | 13) + " 6 7 0 0");
                becomes("K " + op, new int[] {addi(5, 0, 2047), turned[k] ? b(f3[k], 5, 18, 8) : b(f3[k], 18, 5, 8), jal(0, 4)},
                    Integer.toHexString(op << 4 | 5) + " 6 0 0 2047");
                int cut = i(0x1b, 0, 6, 18, 0);
                int branch = turned[k] ? b(f3[k], 7, 6, 8) : b(f3[k], 6, 7, 8);
                becomes("S of 32 bits " + op, new int[] {cut, i(0x1b, 0, 7, 19, 0), branch, jal(0, 4)},
                    Integer.toHexString(op << 4 | 14) + " 6 7 0 0");
                becomes("K of 32 bits " + op, new int[] {addi(5, 0, -2048), cut, i(0x1b, 0, 7, 5, 0), branch, jal(0, 4)},
                    Integer.toHexString(op << 4 | 6) + " 6 0 0 -2048");
            }
        });
        test("those that go: 4", x -> {
            becomes("S", new int[] {r(0x33, 0, 7, 6, 18, 19), b(0, 6, 0, 8), jal(0, 4)}, "4d 6 7 0 0");
            becomes("K", new int[] {addi(5, 0, 7), r(0x33, 0, 7, 6, 18, 5), b(0, 6, 0, 8), jal(0, 4)}, "45 6 0 0 7");
            becomes("S of 32 bits", new int[] {i(0x1b, 0, 6, 18, 0), i(0x1b, 0, 7, 19, 0), r(0x33, 0, 7, 6, 6, 7), b(0, 6, 0, 8), jal(0, 4)},
                "4e 6 7 0 0");
            becomes("K of 32 bits", new int[] {addi(5, 0, 7), i(0x1b, 0, 6, 18, 0), i(0x1b, 0, 7, 5, 0), r(0x33, 0, 7, 6, 6, 7),
                b(0, 6, 0, 8), jal(0, 4)}, "46 6 0 0 7");
        });
        test("those that go: to the first WORD of where it goes", x -> becomes("over two", new int[] {addi(5, 0, 7), b(1, 18, 5, 8),
            jal(0, 4 * 5), lui(18, 1), i(0x1b, 0, 18, 18, -2048), addi(5, 0, 1), r(0x33, 0, 0, 18, 18, 5), jal(0, 4)},
            "15 6 0 2 7", "b7 6 0 0 2048", "7 6 0 0 1", "5 0 0 0 0"));
        test("those that go: far, over many WORDS", x -> {
            for (int over : new int[] {50, 51, 101, 102, 103, 153, 154, 204, 205, 245}) {
                String[] rows = new String[over + 4];
                java.util.Arrays.fill(rows, "4 6 0 0 4096");
                rows[0] = "b7 0 0 0 0";
                rows[1] = "b7 6 0 0 0";
                rows[2] = "5 0 0 " + over + " 0";
                rows[over + 3] = END;
                load(x, rows);
                due("translate of " + over, x.translate(), 3 + 5 * over + 1);
                due("word 2 of " + over, x.word(2), jal(0, 4 + 20 * over));
                due("word 3 of " + over, x.word(3), lui(5, 1));
                due("word " + (2 + 5 * over), x.word(2 + 5 * over), i(0x13, 5, 18, 18, 32));
                due("the last word", x.word(3 + 5 * over), ECALL);
            }
        });
        test("MEMORY: loading and storing, each size", x -> {
            String[] loads = {"71", "69", "61", "79"};
            int[] f3 = {4, 5, 6, 3};
            String[] stores = {"73", "6b", "63", "7b"};
            String[] storesK = {"72", "6a", "62", "7a"};
            for (int k = 0; k < 4; k++) {
                int[] base = {addi(5, 0, -8), r(0x33, 0, 0, 5, 5, 22)};
                becomes("load", new int[] {base[0], base[1], i(0x03, f3[k], 18, 5, 0)}, loads[k] + " 6 a -8 0");
                becomes("store", new int[] {base[0], base[1], s(k, 5, 18, 0)}, stores[k] + " a 6 -8 0");
                becomes("store K", new int[] {base[0], base[1], addi(6, 0, -2048), s(k, 5, 6, 0)}, storesK[k] + " a 0 -8 -2048");
                becomes("store K", new int[] {base[0], base[1], lui(6, 1), i(0x1b, 0, 6, 6, -2048), s(k, 5, 6, 0)},
                    storesK[k] + " a 0 -8 2048");
            }
        });
        test("MEMORY: LI t, OFF of more than 12 bits", x -> {
            List<Integer> words = new ArrayList<>();
            words.add(addi(18, 22, 0));
            li(words, 5, 4096);
            words.add(r(0x33, 32, 0, 18, 18, 5));
            li(words, 5, 4088);
            words.add(r(0x33, 0, 0, 5, 5, 18));
            words.add(i(0x03, 3, 19, 5, 0));
            becomes("OFF 4088", row(words), "bf 6 a 0 0", "17 6 0 0 4096", "79 7 6 4088 0");
            words.clear();
            words.add(addi(18, 22, 0));
            li(words, 5, 32760);
            words.add(r(0x33, 0, 0, 18, 18, 5));
            li(words, 5, -32768);
            words.add(r(0x33, 0, 0, 5, 5, 18));
            words.add(i(0x03, 3, 19, 5, 0));
            becomes("OFF -32768", row(words), "bf 6 a 0 0", "7 6 0 0 32760", "79 7 6 -32768 0");
        });
        test("READ: each size, by K and by S", x -> {
            String[] codes = {"30", "28", "20", "50", "48", "40"};
            for (int k = 0; k < 6; k++) {
                for (int number : new int[] {0, 2047, 2048, -1, -2049, 2147483647}) {
                    int size = 1 << k % 3;
                    List<Integer> words = new ArrayList<>();
                    li(words, 5, number);
                    if (k >= 3) {
                        words.add(r(0x3b, 0, 0, 5, 5, 18));
                    }
                    words.add(i(0x13, 1, 5, 5, 32));
                    words.add(i(0x13, 5, 5, 5, 32));
                    words.add(addi(6, 5, size));
                    words.add(b(7, 9, 6, 12));
                    words.add(addi(10, 0, 0));
                    words.add(ECALL);
                    words.add(r(0x33, 0, 0, 5, 5, 8));
                    words.add(i(0x03, 4, 10, 5, 0));
                    for (int part = 1; part < size; part++) {
                        words.add(i(0x13, 1, 10, 10, 8));
                        words.add(i(0x03, 4, 6, 5, part));
                        words.add(r(0x33, 0, 6, 10, 10, 6));
                    }
                    becomes("READ " + codes[k] + " " + number, row(words), codes[k] + " 0 " + (k < 3 ? 0 : 6) + " 0 " + number);
                }
            }
        });
        test("r0 to r5 are x10 to x15, r6 to r10 x18 to x22", x -> {
            for (int d = 0; d <= 9; d++) {
                becomes("r" + d, new int[] {addi(at(d), 22, 0)}, "bf " + d + " a 0 0");
                if (d != 0) {
                    becomes("of r" + d, new int[] {addi(at(d), 0, 5), addi(10, at(d), 0)}, "b7 " + d + " 0 0 5", "bf 0 " + d + " 0 0");
                }
            }
        });
    }

    private static void alike() {
        test("READ by OBJECT: up to L, not behind it; by 2^32 it wraps", x -> {
            packetOf(x, 10);
            packet(x);
            String[] rows = {"30 0 0 0 9", "30 0 0 0 10", "28 0 0 0 8", "28 0 0 0 9", "20 0 0 0 6", "20 0 0 0 7", "30 0 0 0 -1",
                "20 0 0 0 -4", "20 0 0 0 -3", "50 0 1 0 -1", "50 0 1 0 0", "50 0 1 0 -10", "50 0 1 0 -11", "40 0 1 0 -4", "40 0 1 0 -3",
                "50 0 1 0 2147483647", "48 0 1 0 -2147483648"};
            long[] due = {9, 0, 0x0809, 0, 0x06070809, 0, 0, 0, 0, 9, 0, 0, 0, 0x06070809, 0, 0, 0};
            boolean[] ends = {false, true, false, true, false, true, true, true, true, false, true, false, true, false, true, true, true};
            for (int k = 0; k < rows.length; k++) {
                load(x, rows[k], "15 0 0 0 0", END);
                due("run of " + rows[k], x.run(0), due[k]);
                due("steps of " + rows[k], x.ended(1), ends[k] ? 1 : 3);
                x.translate();
                due("emulate of " + rows[k], x.emulate(0), due[k]);
                due("trap of " + rows[k], x.ended(0), 0);
                due("emulate of none of " + rows[k], x.emulate(1), 0);
                due("trap of none of " + rows[k], x.ended(0), 0);
            }
        });
        test("op 3, 9, shifts by OBJECT as by the PROGRAM, at the edges", x -> {
            long[] numbers = {0, 1, 2, 31, 32, 33, 63, 64, -1, -2, 0x7fffffff, 0x80000000L, 0xffffffffL, 0x100000000L, Long.MAX_VALUE, HALF};
            for (int op : new int[] {3, 9, 6, 7, 12}) {
                for (int low : new int[] {12, 15}) {
                    for (int k = 0; k < numbers.length; k++) {
                        FilterForge y = new FilterForge();
                        packetOf(y, 3);
                        for (long other : numbers) {
                            long one = numbers[k];
                            load(y, "b7 0 0 0 " + (one >> 32), "67 0 0 0 32", "b4 3 0 0 " + (int) one, "4f 0 3 0 0",
                                "b7 2 0 0 " + (other >> 32), "67 2 0 0 32", "b4 3 0 0 " + (int) other, "4f 2 3 0 0",
                                Integer.toHexString(op << 4 | low) + " 0 2 0 0", END);
                            long answer = y.run(0);
                            y.translate();
                            due("emulate of op " + op + " of " + one + ", " + other, y.emulate(0), answer);
                        }
                    }
                }
            }
        });
    }

    public static void main(String[] args) {
        raws();
        runs();
        missing();
        goings();
        memory();
        numbers();
        translating();
        alike();
        finish("EdgeObjectTest");
    }
}
