/** The edges of a PROGRAM and of running it (promises 7, 11, 16, 17, 18; Terms 2). */
public final class EdgeProgramTest extends Edge {
    /** Packet 0 is 1 2 3 4 5; the rows are loaded and run on it. */
    private static FilterForge ran(String... rows) {
        FilterForge x = new FilterForge();
        packet(x, 1, 2, 3, 4, 5);
        due("load", load(x, rows), rows.length);
        x.run(0);
        return x;
    }

    private static void answers(long answer, String... rows) {
        FilterForge x = ran(rows);
        due("run of " + String.join(", ", rows), x.run(0), answer);
        due("trap of " + String.join(", ", rows), x.ended(0), 0);
    }

    private static void traps(int trap, int steps, int place, String... rows) {
        FilterForge x = ran(rows);
        due("run of " + String.join(", ", rows), x.run(0), 0);
        due("trap of " + String.join(", ", rows), x.ended(0), trap);
        due("steps of " + String.join(", ", rows), x.ended(1), steps);
        due("place of " + String.join(", ", rows), x.ended(2), place);
    }

    /** r1 and r2 become the two numbers of 64 bits by four rows each, then the row, then the end. */
    private static String[] withNumbers(long one, long other, String row) {
        return new String[] {"b7 1 0 0 " + (one >> 32), "67 1 0 0 32", "b4 3 0 0 " + (int) one, "4f 1 3 0 0",
            "b7 2 0 0 " + (other >> 32), "67 2 0 0 32", "b4 3 0 0 " + (int) other, "4f 2 3 0 0", row, "bf 0 1 0 0", END};
    }

    /** op of r1 and r2, of 64 bits, then of 32. */
    private static void op(int op, long one, long other, long of64, long of32) {
        answers(of64, withNumbers(one, other, Integer.toHexString(op << 4 | 15) + " 1 2 0 0"));
        answers(of32, withNumbers(one, other, Integer.toHexString(op << 4 | 12) + " 1 2 0 0"));
        if (other == (int) other) {
            answers(of64, withNumbers(one, 7, Integer.toHexString(op << 4 | 7) + " 1 0 0 " + other));
            answers(of32, withNumbers(one, 7, Integer.toHexString(op << 4 | 4) + " 1 0 0 " + other));
        }
    }

    /** Whether it goes, r1 op r2, of 64 bits, then of 32; of numbers that K can tell, by K, too. */
    private static void goes(int op, long one, long other, int of64, int of32) {
        for (int wide = 0; wide < 2; wide++) {
            for (int byK = 0; byK < 2; byK++) {
                if (byK == 0 || other == (int) other) {
                    String code = Integer.toHexString(op << 4 | (wide == 1 ? 5 : 6) | (byK == 0 ? 8 : 0));
                    String[] rows = withNumbers(one, other, code + (byK == 0 ? " 1 2 1 0" : " 1 0 1 " + other));
                    // It passes over r0 = 1.
                    rows[9] = "b7 0 0 0 1";
                    answers(1 - (wide == 1 ? of64 : of32), rows);
                }
            }
        }
    }

    private static void loading() {
        test("7: how many INSTRUCTIONS: 8 bytes are one", x -> {
            tape(x, 0x95, 0, 0, 0, 0, 0, 0, 0);
            due("load()", x.load(), 1);
        });
        test("7: how many INSTRUCTIONS: 2000 bytes are 250", x -> {
            int[] cells = new int[2000];
            cells[1992] = 0x95;
            tape(x, cells);
            due("load()", x.load(), 250);
            due("instruction(249)", x.instruction(249), 0x95);
            due("instruction(250)", x.instruction(250), 0);
            due("count(1)", x.count(1), 250);
        });
        test("7: -1: it has none", x -> {
            due("load()", x.load(), -1);
            due("count(1)", x.count(1), 0);
        });
        test("7: -1: 8 does not divide it", x -> {
            for (int size = 1; size <= 33; size++) {
                tape(x, new int[size]);
                due("load of " + size, x.load(), size % 8 == 0 ? size / 8 : -1);
            }
            tape(x, new int[1999]);
            due("load of 1999", x.load(), -1);
        });
        test("7: the PROGRAM stays then", x -> {
            packetOf(x, 3);
            load(x, "b7 0 0 0 7", END);
            x.load();
            due("instruction(0)", x.instruction(0), instruction("b7 0 0 0 7"));
            tape(x, new int[9]);
            x.load();
            due("count(1)", x.count(1), 2);
            due("instruction(0)", x.instruction(0), instruction("b7 0 0 0 7"));
            due("run(0)", x.run(0), 7);
        });
        test("7: the TAPE is empty then", x -> {
            load(x, END);
            due("count(3)", x.count(3), 0);
            due("load()", x.load(), -1);
        });
        test("7: the TAPE is empty then, also if it was refused", x -> {
            tape(x, new int[9]);
            x.load();
            due("count(3)", x.count(3), 0);
        });
        test("7: anything may be loaded", x -> {
            due("load", load(x, "0 f f -1 -1"), 1);
            due("instruction(0)", x.instruction(0), 0xffffffffffffff00L);
            due("verify()", x.verify(), 1);
        });
        test("7: a shorter one behind a longer one", x -> {
            packetOf(x, 3);
            load(x, "b7 0 0 0 7", "7 0 0 0 1", END);
            load(x, "b7 0 0 0 9");
            due("count(1)", x.count(1), 1);
            due("run(0)", x.run(0), 0);
            ended(x, 2, 0, 0);
        });
    }

    private static void running() {
        test("11: 0: there is no PROGRAM: nothing is run", x -> {
            packetOf(x, 3);
            raw(x, 0x13, 0x73);
            x.emulate(0);
            due("run(0)", x.run(0), 0);
            ended(x, 0, 2, 1);
            due("register(9)", x.register(9), 3);
            due("register(31)", x.register(31), 0);
        });
        test("11: 0: no such packet: nothing is run, what ended(), register(), stack() tell stays", x -> {
            packetOf(x, 3);
            load(x, "b7 0 0 0 7", "72 a 0 -1 9", END);
            x.run(0);
            load(x, "b7 0 0 0 8", END);
            for (int p : new int[] {1, -1, 15, 16, 17, Integer.MIN_VALUE, Integer.MAX_VALUE}) {
                due("run(" + p + ")", x.run(p), 0);
                ended(x, 0, 3, 2);
                due("register(0)", x.register(0), 7);
                due("stack(63)", x.stack(63), 9);
            }
        });
        test("11: the 16th packet", x -> {
            for (int p = 0; p < 16; p++) {
                packetOf(x, p);
            }
            load(x, "bf 0 1 0 0", END);
            due("run(15)", x.run(15), 15);
            due("run(0)", x.run(0), 0);
            ended(x, 0, 2, 1);
        });
        test("11: what it answers has 64 bits", x -> {
            answers(-1, "b7 0 0 0 -1", END);
            answers(Long.MIN_VALUE, "b7 0 0 0 1", "67 0 0 0 63", END);
        });
        test("REGISTERS: all 0 but 1, which is L, and 10", x -> {
            packet(x);
            packetOf(x, 256);
            load(x, END);
            due("run(0)", x.run(0), 0);
            for (int r = 0; r <= 10; r++) {
                due("register(" + r + ")", x.register(r), r == 10 ? 131136 : 0);
            }
            due("run(1)", x.run(1), 0);
            due("register(1)", x.register(1), 256);
        });
        test("REGISTERS and the STACK are as at first in each run", x -> {
            packetOf(x, 3);
            load(x, "7 0 0 0 1", "7 1 0 0 1", "7 a 0 0 1", "7a 2 0 0 -1", END);
            due("run(0)", x.run(0), 0);
            ended(x, 7, 3, 3);
            load(x, "7 0 0 0 1", "7 1 0 0 1", "71 2 a -1 0", "7 2 0 0 1", "73 a 2 -1 0", END);
            due("run(0)", x.run(0), 1);
            due("stack(63)", x.stack(63), 1);
            due("run(0)", x.run(0), 1);
            due("register(1)", x.register(1), 4);
            due("stack(63)", x.stack(63), 1);
        });
        test("the STACK is 0 at first in each run: each of its 64 bytes", x -> {
            packetOf(x, 3);
            String[] rows = new String[9];
            for (int k = 0; k < 8; k++) {
                rows[k] = "7a a 0 " + (-64 + 8 * k) + " -1";
            }
            rows[8] = END;
            load(x, rows);
            x.run(0);
            for (int k = 0; k < 64; k++) {
                due("stack(" + k + ")", x.stack(k), 255);
            }
            load(x, END);
            x.run(0);
            for (int k = 0; k < 64; k++) {
                due("stack(" + k + ") behind the next run", x.stack(k), 0);
            }
            load(x, rows);
            x.run(0);
            raw(x, 0x73);
            x.emulate(0);
            for (int k = 0; k < 64; k++) {
                due("stack(" + k + ") behind emulate", x.stack(k), 0);
            }
        });
        test("the REGISTERS are as at first in each run: each of them", x -> {
            packetOf(x, 3);
            String[] rows = new String[12];
            for (int r = 0; r <= 10; r++) {
                rows[r] = "b7 " + Integer.toHexString(r) + " 0 0 -1";
            }
            rows[11] = END;
            load(x, rows);
            x.run(0);
            for (int r = 0; r <= 10; r++) {
                due("register(" + r + ")", x.register(r), -1);
            }
            load(x, END);
            x.run(0);
            for (int r = 0; r <= 10; r++) {
                due("register(" + r + ") behind the next run", x.register(r), r == 1 ? 3 : r == 10 ? 131136 : 0);
            }
        });
        test("REGISTERS up to 10: as D and as S, in each INSTRUCTION that has them", x -> {
            answers(5, "bf a 1 0 0", "bf 0 a 0 0", END);
            for (int r = 11; r <= 15; r++) {
                String d = Integer.toHexString(r);
                traps(1, 0, 0, "b7 " + d + " 0 0 1", END);
                traps(1, 0, 0, "bf 0 " + d + " 0 0", END);
                traps(1, 0, 0, "71 " + d + " a -8 0", END);
                traps(1, 0, 0, "71 0 " + d + " -8 0", END);
                traps(1, 0, 0, "72 " + d + " 0 -8 0", END);
                traps(1, 0, 0, "73 a " + d + " -8 0", END);
                traps(1, 0, 0, "15 " + d + " 0 0 0", END);
                traps(1, 0, 0, "1d 0 " + d + " 0 0", END);
                traps(1, 0, 0, "50 0 " + d + " 0 0", END);
                traps(1, 0, 0, "87 " + d + " 0 0 0", END);
            }
        });
        test("10 can be changed by running", x -> answers(131137, "7 a 0 0 1", "bf 0 a 0 0", END));
    }

    private static void codes() {
        test("TRAP 1: no such CODE: each of the 256", x -> {
            for (int code = 0; code < 256; code++) {
                int low = code & 7;
                int high = code >> 4;
                boolean s = (code & 8) != 0;
                boolean is = low == 7 || low == 4 ? high <= 12 && !(high == 8 && s)
                    : low == 5 ? code == 5 || code == 149 || high >= 1 && high <= 7 || high >= 10 && high <= 13
                    : low == 6 ? high >= 1 && high <= 7 || high >= 10 && high <= 13
                    : code == 97 || code == 105 || code == 113 || code == 121 || code >= 98 && code <= 123 && (low == 2 || low == 3)
                    || code == 32 || code == 40 || code == 48 || code == 64 || code == 72 || code == 80;
                FilterForge y = ran("b7 1 0 0 0", Integer.toHexString(code) + " 0 0 0 0", END);
                due("trap of CODE " + code, y.ended(0) == 1 ? 1 : 0, is ? 0 : 1);
                due("verify of CODE " + code, y.verify() == 17 ? 1 : 0, is ? 0 : 1);
                if (!is) {
                    ended(y, 1, 1, 1);
                }
            }
        });
        test("TRAP 1: something not used is not 0: OFF of CODES 7 and 4", x -> {
            for (int op = 0; op <= 12; op++) {
                for (int low : new int[] {4, 7, 12, 15}) {
                    if (op != 8 || low < 8) {
                        String code = Integer.toHexString(op << 4 | low);
                        traps(1, 0, 0, code + " 0 0 1 0", END);
                        traps(1, 0, 0, code + " 0 0 -32768 0", END);
                    }
                }
            }
        });
        test("TRAP 1: something not used is not 0: K of those with S as y, S of those with K", x -> {
            for (int op = 0; op <= 12; op++) {
                for (int low : new int[] {4, 7}) {
                    traps(1, 0, 0, Integer.toHexString(op << 4 | low) + " 0 1 0 0", END);
                    if (op != 8) {
                        traps(1, 0, 0, Integer.toHexString(op << 4 | 8 | low) + " 0 0 0 1", END);
                        traps(1, 0, 0, Integer.toHexString(op << 4 | 8 | low) + " 0 0 0 -2147483648", END);
                    }
                }
            }
            for (int op : new int[] {1, 2, 3, 4, 5, 6, 7, 10, 11, 12, 13}) {
                for (int low : new int[] {5, 6}) {
                    traps(1, 0, 0, Integer.toHexString(op << 4 | low) + " 0 1 0 0", END);
                    traps(1, 0, 0, Integer.toHexString(op << 4 | 8 | low) + " 0 0 0 1", END);
                }
            }
        });
        test("TRAP 1: something not used is not 0: of 0 - D K and S", x -> {
            for (String code : new String[] {"87", "84"}) {
                traps(1, 0, 0, code + " 0 0 0 1", END);
                traps(1, 0, 0, code + " 0 1 0 0", END);
                traps(1, 0, 0, code + " 0 0 1 0", END);
            }
            answers(0, "87 0 0 0 0", END);
            answers(0, "84 0 0 0 0", END);
        });
        test("TRAP 1: something not used is not 0: of CODE 5 all but OFF", x -> {
            answers(0, "5 0 0 0 0", END);
            traps(1, 0, 0, "5 1 0 0 0", END);
            traps(1, 0, 0, "5 0 1 0 0", END);
            traps(1, 0, 0, "5 0 0 0 1", END);
        });
        test("TRAP 1: something not used is not 0: of CODE 149 all", x -> {
            answers(0, "95 0 0 0 0");
            traps(1, 0, 0, "95 1 0 0 0", END);
            traps(1, 0, 0, "95 0 1 0 0", END);
            traps(1, 0, 0, "95 0 0 1 0", END);
            traps(1, 0, 0, "95 0 0 0 1", END);
        });
        test("TRAP 1: something not used is not 0: of loading K", x -> {
            for (String code : new String[] {"61", "69", "71", "79"}) {
                answers(0, code + " 0 a -8 0", END);
                traps(1, 0, 0, code + " 0 a -8 1", END);
            }
        });
        test("TRAP 1: something not used is not 0: of storing S or K", x -> {
            for (String code : new String[] {"62", "6a", "72", "7a"}) {
                answers(0, code + " a 0 -8 1", END);
                traps(1, 0, 0, code + " a 1 -8 1", END);
            }
            for (String code : new String[] {"63", "6b", "73", "7b"}) {
                answers(0, code + " a 1 -8 0", END);
                traps(1, 0, 0, code + " a 1 -8 1", END);
            }
        });
        test("TRAP 1: something not used is not 0: of READ D and OFF, and S of those without S", x -> {
            for (String code : new String[] {"20", "28", "30", "40", "48", "50"}) {
                due("trap", ran(code + " 0 0 0 0", END).ended(0), 0);
                traps(1, 0, 0, code + " 1 0 0 0", END);
                traps(1, 0, 0, code + " 0 0 1 0", END);
                if (code.charAt(0) < '4') {
                    traps(1, 0, 0, code + " 0 1 0 0", END);
                } else {
                    due("trap", ran(code + " 0 2 0 1", END).ended(0), 0);
                }
            }
        });
        test("TRAP 1 only of what is come to", x -> {
            answers(0, END, "0 0 0 0 0");
            answers(0, "5 0 0 1 0", "0 0 0 0 0", END);
        });
        test("With a TRAP what it answers is 0; the REGISTERS are told", x -> {
            FilterForge y = ran("b7 0 0 0 7", "0 0 0 0 0", END);
            due("run(0)", y.run(0), 0);
            due("register(0)", y.register(0), 7);
        });
    }

    private static void ops() {
        long most = -1;
        long half = Long.MIN_VALUE;
        test("+ of 64 bits, of 32 bits: up to the edge and behind it", x -> {
            op(0, most, 1, 0, 0);
            op(0, 0xffffffffL, 1, 0x100000000L, 0);
            op(0, 0x7fffffffL, 1, 0x80000000L, 0x80000000L);
            op(0, 5, -7, -2, 0xfffffffeL);
            op(0, 0x100000001L, 0x100000002L, 0x200000003L, 3);
        });
        test("-", x -> {
            op(1, 0, 1, most, 0xffffffffL);
            op(1, 0x100000000L, 1, 0xffffffffL, 0xffffffffL);
            op(1, 7, 7, 0, 0);
            op(1, 0, -1, 1, 1);
            op(1, half, 1, Long.MAX_VALUE, 0xffffffffL);
        });
        test("*", x -> {
            op(2, most, most, 1, 1);
            op(2, 0x100000000L, 0x100000000L, 0, 0);
            op(2, 0xffffffffL, 0xffffffffL, 0xfffffffe00000001L, 1);
            op(2, 65536, 65536, 0x100000000L, 0);
            op(2, half, 2, 0, 0);
            op(2, 3, -1, -3, 0xfffffffdL);
        });
        test("/ without sign", x -> {
            op(3, most, 2, Long.MAX_VALUE, 0x7fffffffL);
            op(3, 7, -1, 0, 0);
            op(3, most, most, 1, 1);
            op(3, half, 3, 0x2aaaaaaaaaaaaaaaL, 0);
            op(3, half, half + 1, 0, 0);
            op(3, most, half, 1, 0);
            op(3, -2, -1, 0, 0);
            op(3, 0x200000006L, 0x100000003L, 2, 2);
        });
        test("/: 0 by 0", x -> {
            op(3, 7, 0, 0, 0);
            op(3, 0, 0, 0, 0);
            op(3, most, 0, 0, 0);
        });
        test("/: of 32 bits 0 by what has 0 in its lowest 32 bits", x -> {
            op(3, 7, 0x100000000L, 0, 0);
            op(3, most, 0x100000000L, 0xffffffffL, 0);
        });
        test("what is left", x -> {
            op(9, most, 10, 5, 5);
            op(9, 7, -1, 7, 7);
            op(9, most, most, 0, 0);
            op(9, half, 3, 2, 0);
            op(9, -2, -1, -2, 0xfffffffeL);
            op(9, half + 5, half + 2, 3, 1);
            op(9, 7, 1, 0, 0);
        });
        test("what is left: by 0: D", x -> {
            op(9, 7, 0, 7, 7);
            op(9, most, 0, most, 0xffffffffL);
            op(9, half, 0, half, 0);
        });
        test("what is left: of 32 bits D by what has 0 in its lowest 32 bits", x -> {
            op(9, 0x500000007L, 0x100000000L, 7, 7);
            op(9, most, 0x500000000L, 0xffffffffL, 0xffffffffL);
        });
        test("or, and, xor", x -> {
            op(4, half, -2147483648, 0xffffffff80000000L, 0x80000000L);
            op(4, 0x100000000L, 5, 0x100000005L, 5);
            op(5, most, -2147483648, 0xffffffff80000000L, 0x80000000L);
            op(5, most, 0x100000000L, 0x100000000L, 0);
            op(10, most, -1, 0, 0);
            op(10, 0x1ffffffffL, 5, 0x1fffffffaL, 0xfffffffaL);
        });
        test("op 11: y", x -> {
            op(11, 7, -1, -1, 0xffffffffL);
            op(11, 7, 0x123456789L, 0x123456789L, 0x23456789L);
            op(11, 7, -2147483648, -2147483648, 0x80000000L);
            op(11, 7, 2147483647, 2147483647, 2147483647);
        });
        test("op 8: 0 - D", x -> {
            for (long d : new long[] {0, 1, -1, half, 0x100000000L, 0x80000000L, 0x123456789L}) {
                answers(-d, withNumbers(d, 0, "87 1 0 0 0"));
                answers(-d & 0xffffffffL, withNumbers(d, 0, "84 1 0 0 0"));
            }
        });
        test("shifts to the left by the lowest 6, of 32 bits 5, bits of y", x -> {
            op(6, 1, 0, 1, 1);
            op(6, 1, 31, 0x80000000L, 0x80000000L);
            op(6, 1, 32, 0x100000000L, 1);
            op(6, 1, 33, 0x200000000L, 2);
            op(6, 1, 63, half, 0x80000000L);
            op(6, 1, 64, 1, 1);
            op(6, 1, 65, 2, 2);
            op(6, 1, -1, half, 0x80000000L);
            op(6, most, 0x100000001L, -2, 0xfffffffeL);
        });
        test("shifts to the right, without sign, by the lowest 6, of 32 bits 5, bits of y", x -> {
            op(7, most, 0, most, 0xffffffffL);
            op(7, most, 31, 0x1ffffffffL, 1);
            op(7, most, 32, 0xffffffffL, 0xffffffffL);
            op(7, most, 33, 0x7fffffffL, 0x7fffffffL);
            op(7, most, 63, 1, 1);
            op(7, most, 64, most, 0xffffffffL);
            op(7, most, -1, 1, 1);
            op(7, half, 1, 0x4000000000000000L, 0);
        });
        test("shifts to the right with sign by the lowest 6, of 32 bits 5, bits of y", x -> {
            op(12, half, 0, half, 0);
            op(12, half, 63, most, 0);
            op(12, half, 64, half, 0);
            op(12, Long.MAX_VALUE, 62, 1, 0xffffffffL);
            op(12, Long.MAX_VALUE, 63, 0, 0xffffffffL);
            op(12, 0x80000000L, 31, 1, 0xffffffffL);
            op(12, 0x80000000L, 32, 0, 0x80000000L);
            op(12, 0x80000000L, 1, 0x40000000L, 0xc0000000L);
            op(12, 0x7fffffffL, 30, 1, 1);
            op(12, 0x7fffffffL, 31, 0, 0);
            op(12, -8, -1, -1, 0xffffffffL);
            op(12, -8, 33, -1, 0xfffffffcL);
        });
        test("32 bits: of what comes the higher 32 bits are 0", x -> {
            String[] rows = {"4 1 0 0 0", "14 1 0 0 0", "24 1 0 0 1", "34 1 0 0 1", "44 1 0 0 0", "54 1 0 0 -1", "64 1 0 0 0",
                "74 1 0 0 0", "94 1 0 0 2", "a4 1 0 0 0", "c4 1 0 0 0", "84 1 0 0 0", "b4 1 0 0 -1", "bc 1 1 0 0"};
            long[] due = {1, 1, 1, 1, 1, 1, 1, 1, 1, 1, 1, 0xffffffffL, 0xffffffffL, 1};
            for (int i = 0; i < rows.length; i++) {
                answers(due[i], withNumbers(0x100000001L, 0, rows[i]));
            }
        });
    }

    private static void goings() {
        long most = -1;
        long half = Long.MIN_VALUE;
        test("= and not =", x -> {
            goes(1, 7, 7, 1, 1);
            goes(1, 7, 8, 0, 0);
            goes(1, 0x100000007L, 7, 0, 1);
            goes(1, most, -1, 1, 1);
            goes(1, 0xffffffffL, -1, 0, 1);
            goes(5, 7, 7, 0, 0);
            goes(5, 7, 8, 1, 1);
            goes(5, 0x100000007L, 7, 1, 0);
            goes(5, 0xffffffffL, -1, 1, 0);
        });
        test("> and <=, without sign", x -> {
            goes(2, 7, 7, 0, 0);
            goes(2, 8, 7, 1, 1);
            goes(2, 6, 7, 0, 0);
            goes(2, most, 0, 1, 1);
            goes(2, 0, -1, 0, 0);
            goes(2, half, Long.MAX_VALUE, 1, 0);
            goes(2, 0x80000000L, 0x7fffffffL, 1, 1);
            goes(2, 0x100000000L, 1, 1, 0);
            goes(11, 7, 7, 1, 1);
            goes(11, 8, 7, 0, 0);
            goes(11, 6, 7, 1, 1);
            goes(11, most, 0, 0, 0);
            goes(11, 0, -1, 1, 1);
            goes(11, half, Long.MAX_VALUE, 0, 1);
        });
        test(">= and <, without sign", x -> {
            goes(3, 7, 7, 1, 1);
            goes(3, 8, 7, 1, 1);
            goes(3, 6, 7, 0, 0);
            goes(3, most, 0, 1, 1);
            goes(3, 0, -1, 0, 0);
            goes(3, 0x100000000L, 1, 1, 0);
            goes(10, 7, 7, 0, 0);
            goes(10, 8, 7, 0, 0);
            goes(10, 6, 7, 1, 1);
            goes(10, most, 0, 0, 0);
            goes(10, 0, -1, 1, 1);
            goes(10, 0x100000000L, 1, 0, 1);
        });
        test("> and <= with sign", x -> {
            goes(6, 7, 7, 0, 0);
            goes(6, 8, 7, 1, 1);
            goes(6, -1, 0, 0, 0);
            goes(6, 0, -1, 1, 1);
            goes(6, half, Long.MAX_VALUE, 0, 1);
            goes(6, 0x80000000L, 0x7fffffffL, 1, 0);
            goes(6, 0x7fffffffL, -2147483648, 1, 1);
            goes(13, 7, 7, 1, 1);
            goes(13, 8, 7, 0, 0);
            goes(13, -1, 0, 1, 1);
            goes(13, 0, -1, 0, 0);
            goes(13, half, Long.MAX_VALUE, 1, 0);
            goes(13, 0x80000000L, 0x7fffffffL, 0, 1);
        });
        test(">= and < with sign", x -> {
            goes(7, 7, 7, 1, 1);
            goes(7, 6, 7, 0, 0);
            goes(7, -1, 0, 0, 0);
            goes(7, 0, -1, 1, 1);
            goes(7, 0x80000000L, 0x7fffffffL, 1, 0);
            goes(12, 7, 7, 0, 0);
            goes(12, 6, 7, 1, 1);
            goes(12, -1, 0, 1, 1);
            goes(12, 0, -1, 0, 0);
            goes(12, 0x80000000L, 0x7fffffffL, 0, 1);
        });
        test("D and y is not 0", x -> {
            goes(4, 6, 1, 0, 0);
            goes(4, 6, 2, 1, 1);
            goes(4, 0, -1, 0, 0);
            goes(4, 0x100000000L, 0x100000000L, 1, 0);
            goes(4, half, -2147483648, 1, 0);
            goes(4, half, 0x7fffffff, 0, 0);
        });
        test("OFF more on than to the next one: 0, on and back", x -> {
            answers(7, "b7 0 0 0 7", "5 0 0 0 0", END);
            answers(0, "5 0 0 1 0", "b7 0 0 0 7", END);
            answers(7, "5 0 0 2 0", "b7 0 0 0 7", END, "5 0 0 -3 0");
            traps(9, 10000, 0, "5 0 0 -1 0");
        });
        test("OFF up to 32767, down to -32768", x -> {
            traps(2, 0, 0, "5 0 0 32767 0", END);
            traps(2, 0, 0, "5 0 0 -32768 0", END);
            FilterForge y = new FilterForge();
            packet(y, 1);
            String[] rows = new String[250];
            java.util.Arrays.fill(rows, "7 0 0 0 1");
            rows[0] = "5 0 0 248 0";
            rows[249] = "5 0 0 -249 0";
            rows[1] = END;
            due("load", load(y, rows), 250);
            due("run(0)", y.run(0), 0);
            ended(y, 0, 3, 1);
        });
        test("TRAP 2: a place below 0: it goes, and is no STEP", x -> {
            traps(2, 1, 1, "b7 0 0 0 7", "5 0 0 -3 0", END);
            traps(2, 0, 0, "5 0 0 -2 0", END);
            answers(0, "5 0 0 1 0", END, "5 0 0 -2 0");
        });
        test("TRAP 2: a place behind the last one", x -> {
            traps(2, 1, 1, "b7 0 0 0 7", "5 0 0 1 0", END);
            traps(2, 1, 1, "b7 0 0 0 7", "15 0 0 1 7", END);
            answers(7, "b7 0 0 0 7", "5 0 0 0 0", END);
        });
        test("TRAP 2: the last one goes on", x -> {
            traps(2, 0, 0, "b7 0 0 0 7");
            traps(2, 1, 1, "b7 0 0 0 7", "15 0 0 -2 8");
            traps(2, 1, 1, "b7 0 0 0 7", "5 0 0 0 0");
            traps(2, 1, 1, "b7 0 0 0 7", "30 0 0 0 0");
            traps(2, 1, 1, "b7 0 0 0 7", "7a a 0 -8 1");
        });
        test("TRAP 2: not, if it does not go there", x -> {
            answers(7, "b7 0 0 0 7", "15 0 0 100 8", END);
            answers(7, "b7 0 0 0 7", "15 0 0 -100 8", END);
        });
        test("TRAP 2: the last one is the end of itself", x -> {
            answers(7, "b7 0 0 0 7", END);
            FilterForge y = ran("30 0 0 0 5");
            due("run(0)", y.run(0), 0);
            ended(y, 0, 1, 0);
        });
        test("TRAP 9: it has done 10000: the end may be the 10000th", x -> {
            // 1 + 2 * 4999 + 1
            FilterForge y = ran("b7 0 0 0 0", "7 0 0 0 1", "a5 0 0 -2 4999", END);
            due("run(0)", y.run(0), 4999);
            ended(y, 0, 10000, 3);
        });
        test("TRAP 9: told ahead of the 10001st, also of the end", x -> {
            FilterForge y = ran("b7 0 0 0 0", "b7 2 0 0 0", "7 0 0 0 1", "a5 0 0 -2 4999", END);
            due("run(0)", y.run(0), 0);
            ended(y, 9, 10000, 4);
            due("register(0)", y.register(0), 4999);
        });
        test("TRAP 9: told ahead of the 10001st, also of one with another TRAP", x -> {
            FilterForge y = ran("b7 0 0 0 0", "b7 2 0 0 0", "7 0 0 0 1", "a5 0 0 -2 4999", "0 0 0 0 0");
            due("run(0)", y.run(0), 0);
            ended(y, 9, 10000, 4);
            y = ran("b7 0 0 0 0", "b7 2 0 0 0", "7 0 0 0 1", "a5 0 0 -2 4999", "71 0 0 0 0", END);
            ended(y, 9, 10000, 4);
        });
        test("TRAP 9: the 10000th has its own TRAP", x -> {
            FilterForge y = ran("b7 0 0 0 0", "7 0 0 0 1", "a5 0 0 -2 4999", "0 0 0 0 0");
            ended(y, 1, 9999, 3);
            y = ran("b7 0 0 0 0", "7 0 0 0 1", "a5 0 0 -2 4999", "71 0 0 0 0", END);
            ended(y, 7, 9999, 3);
            y = ran("b7 0 0 0 0", "7 0 0 0 1", "a5 0 0 -2 4999", "5 0 0 7 0", END);
            ended(y, 2, 9999, 3);
        });
    }

    private static void memory() {
        test("STACK: places 131072 to 131135, for each size, by loading and storing", x -> {
            String[] loads = {"71", "69", "61", "79"};
            String[] stores = {"72", "6a", "62", "7a"};
            String[] storesS = {"73", "6b", "63", "7b"};
            for (int i = 0; i < 4; i++) {
                int size = 1 << i;
                for (int off = -73; off <= 8; off++) {
                    boolean is = off >= -64 && off + size <= 0;
                    for (String row : new String[] {loads[i] + " 0 a " + off + " 0", stores[i] + " a 0 " + off + " -1",
                        storesS[i] + " a 1 " + off + " 0"}) {
                        FilterForge y = ran("b7 2 0 0 9", row, END);
                        ended(y, is ? 0 : 7, is ? 3 : 1, is ? 2 : 1);
                    }
                }
            }
        });
        test("STACK: 0 at first", x -> {
            for (int off = -64; off <= -8; off += 8) {
                answers(0, "79 0 a " + off + " 0", END);
            }
        });
        test("MEMORY that is not there: the packet, 0, the greatest places", x -> {
            traps(7, 0, 0, "71 0 0 0 0", END);
            traps(7, 1, 1, "b7 2 0 0 65536", "71 0 2 0 0", END);
            traps(7, 1, 1, "b7 2 0 0 -1", "71 0 2 0 0", END);
            traps(7, 1, 1, "b7 2 0 0 -1", "71 0 2 1 0", END);
            traps(7, 1, 1, "b7 2 0 0 -8", "79 0 2 0 0", END);
            traps(7, 2, 2, "b7 2 0 0 -1", "77 2 0 0 1", "71 0 2 0 0", END);
            traps(7, 3, 3, "b7 2 0 0 -1", "77 2 0 0 1", "bf 3 2 0 0", "79 0 3 1 0", END);
            traps(7, 3, 3, "b7 2 0 0 1", "67 2 0 0 32", "f 2 a 0 0", "71 0 2 -1 0", END);
            traps(7, 1, 1, "b7 2 0 0 -2147483648", "72 2 0 0 1", END);
        });
        test("MEMORY by any base and OFF", x -> {
            answers(9, "b7 2 0 0 131072", "72 2 0 63 9", "71 0 2 63 0", END);
            answers(9, "b7 2 0 0 98305", "72 2 0 32767 9", "71 0 a -64 0", END);
            answers(9, "b7 2 0 0 163840", "72 2 0 -32768 9", "71 0 a -64 0", END);
            traps(7, 1, 1, "b7 2 0 0 98304", "72 2 0 32767 9", END);
        });
        test("MEMORY: a size need not divide the place", x -> answers(0x0706050403020100L + 1, "72 a 0 -63 1", "72 a 0 -62 1",
            "72 a 0 -61 2", "72 a 0 -60 3", "72 a 0 -59 4", "72 a 0 -58 5", "72 a 0 -57 6", "72 a 0 -56 7", "79 0 a -63 0", END));
        test("TRAP 7: it does nothing", x -> {
            FilterForge y = ran("b7 2 0 0 -1", "7b a 2 -7 0", END);
            for (int i = 0; i < 64; i++) {
                due("stack(" + i + ")", y.stack(i), 0);
            }
            y = ran("b7 0 0 0 7", "79 0 a -7 0", END);
            due("register(0)", y.register(0), 7);
            y = ran("b7 2 0 0 -1", "7b a 2 -65 0", END);
            due("stack(0)", y.stack(0), 0);
        });
        test("loading 4, 2, 1, 8 bytes: the lowest byte first, without a sign", x -> {
            answers(-1, "7a a 0 -8 -1", "79 0 a -8 0", END);
            answers(0xffffffffL, "7a a 0 -8 -1", "61 0 a -8 0", END);
            answers(0xffff, "7a a 0 -8 -1", "69 0 a -8 0", END);
            answers(0xff, "7a a 0 -8 -1", "71 0 a -8 0", END);
            answers(0x0201, "72 a 0 -8 1", "72 a 0 -7 2", "69 0 a -8 0", END);
        });
        test("storing K: 8 bytes with its sign; else the lowest bytes of it", x -> {
            answers(-2, "7a a 0 -8 -2", "79 0 a -8 0", END);
            answers(0xfffffffeL, "62 a 0 -8 -2", "79 0 a -8 0", END);
            answers(0xfffe, "6a a 0 -8 -2", "79 0 a -8 0", END);
            answers(0xfe, "72 a 0 -8 -2", "79 0 a -8 0", END);
            answers(0x7fffffff, "7a a 0 -8 2147483647", "79 0 a -8 0", END);
        });
        test("storing S: the lowest bytes of it, and no others are changed", x -> {
            String[] codes = {"73", "6b", "63", "7b"};
            for (int i = 0; i < 4; i++) {
                FilterForge y = ran("b7 2 0 0 -1", codes[i] + " a 2 -40 0", END);
                for (int k = 0; k < 64; k++) {
                    due("stack(" + k + ")", y.stack(k), k >= 24 && k < 24 + (1 << i) ? 255 : 0);
                }
            }
        });
    }

    private static void reads() {
        test("READ(K, 4, 2, 1): up to L, not behind it", x -> {
            answers(0x02030405, "b7 0 0 0 9", "20 0 0 0 1", END);
            answers(0x0405, "28 0 0 0 3", END);
            answers(5, "30 0 0 0 4", END);
            for (String row : new String[] {"20 0 0 0 2", "28 0 0 0 4", "30 0 0 0 5", "20 0 0 0 5", "30 0 0 0 256"}) {
                FilterForge y = ran("b7 0 0 0 9", row, END);
                due("run(0)", y.run(0), 0);
                ended(y, 0, 2, 1);
                due("register(0)", y.register(0), 0);
            }
        });
        test("READ: K without sign: none of them is below 0", x -> {
            for (int k : new int[] {-1, -2, -4, -5, -2147483648, 2147483647}) {
                for (String code : new String[] {"20", "28", "30"}) {
                    FilterForge y = ran("b7 0 0 0 9", code + " 0 0 0 " + k, END);
                    due("run(0)", y.run(0), 0);
                    ended(y, 0, 2, 1);
                }
            }
        });
        test("READ of S + K: up to L, not behind it", x -> {
            answers(0x02030405, "b7 2 0 0 1", "40 0 2 0 0", END);
            answers(0x0405, "b7 2 0 0 1", "48 0 2 0 2", END);
            answers(5, "50 0 1 0 -1", END);
            for (String row : new String[] {"40 0 1 0 -3", "48 0 1 0 -1", "50 0 1 0 0", "50 0 1 0 -6", "40 0 1 0 -6"}) {
                FilterForge y = ran("b7 0 0 0 9", row, END);
                due("run(0)", y.run(0), 0);
                ended(y, 0, 2, 1);
                due("register(0)", y.register(0), 0);
            }
        });
        test("READ of S + K: the lowest 32 bits of it", x -> {
            answers(2, "b7 2 0 0 1", "67 2 0 0 32", "50 0 2 0 1", END);
            answers(1, "b7 2 0 0 -1", "50 0 2 0 1", END);
            answers(1, "b4 2 0 0 -1", "50 0 2 0 1", END);
            answers(1, "b7 2 0 0 -2147483648", "50 0 2 0 -2147483648", END);
            answers(0x01020304, "b4 2 0 0 -1", "40 0 2 0 1", END);
            FilterForge y = ran("b4 2 0 0 -1", "40 0 2 0 0", END);
            ended(y, 0, 2, 1);
        });
        test("READ of packets of 0 and of 256 bytes", x -> {
            packet(x);
            packetOf(x, 256);
            load(x, "30 0 0 0 0", END);
            x.run(0);
            ended(x, 0, 1, 0);
            load(x, "30 0 0 0 255", END);
            due("run(1)", x.run(1), 255);
            load(x, "30 0 0 0 256", END);
            x.run(1);
            ended(x, 0, 1, 0);
            load(x, "20 0 0 0 252", END);
            due("run(1)", x.run(1), 0xfcfdfeffL);
            load(x, "20 0 0 0 253", END);
            x.run(1);
            ended(x, 0, 1, 0);
        });
        test("READ: REGISTER 0 becomes it, without a sign; the others stay", x -> {
            packet(x, 255, 255, 255, 255);
            load(x, "b7 2 0 0 7", "b7 5 0 0 8", "20 0 0 0 0", END);
            due("run(0)", x.run(0), 0xffffffffL);
            due("register(1)", x.register(1), 4);
            due("register(2)", x.register(2), 7);
            due("register(5)", x.register(5), 8);
        });
    }

    private static void told() {
        test("16: 0 for others, 0 ahead of the first", x -> {
            for (int what = -1; what <= 3; what++) {
                due("ended(" + what + ")", x.ended(what), 0);
            }
            packetOf(x, 3);
            load(x, "b7 0 0 0 7", "0 0 0 0 0");
            x.run(0);
            ended(x, 1, 1, 1);
            for (int what : new int[] {-1, 3, 4, Integer.MIN_VALUE, Integer.MAX_VALUE}) {
                due("ended(" + what + ")", x.ended(what), 0);
            }
        });
        test("16: of the latest run() or emulate()", x -> {
            packetOf(x, 3);
            load(x, "b7 0 0 0 7", "b7 0 0 0 8", "0 0 0 0 0");
            raw(x, 0x73);
            x.run(0);
            ended(x, 1, 2, 2);
            x.emulate(0);
            ended(x, 0, 1, 0);
            x.run(0);
            ended(x, 1, 2, 2);
        });
        test("16: a STEP is one that goes, too, and the end", x -> {
            ended(ran(END), 0, 1, 0);
            ended(ran("5 0 0 0 0", END), 0, 2, 1);
            ended(ran("5 0 0 1 0", "b7 0 0 0 1", END), 0, 2, 2);
            ended(ran("15 0 0 1 1", "b7 0 0 0 1", END), 0, 3, 2);
        });
        test("17: 0 to 10; 0 if there is none", x -> {
            packetOf(x, 3);
            load(x, "b7 0 0 0 7", END);
            x.run(0);
            due("register(0)", x.register(0), 7);
            due("register(10)", x.register(10), 131136);
            for (int i : new int[] {-1, 11, 22, 31, 32, Integer.MIN_VALUE, Integer.MAX_VALUE}) {
                due("register(" + i + ")", x.register(i), 0);
            }
        });
        test("17: 0 ahead of the first", x -> {
            load(x, "b7 0 0 0 7", END);
            packetOf(x, 3);
            for (int i = -1; i <= 32; i++) {
                due("register(" + i + ")", x.register(i), 0);
            }
        });
        test("17: of emulate 0 to 31, then of run 0 to 10 again", x -> {
            packetOf(x, 3);
            raw(x, 0x00100f93, 0x73);
            x.emulate(0);
            due("register(31)", x.register(31), 1);
            due("register(22)", x.register(22), 131136);
            due("register(11)", x.register(11), 3);
            due("register(32)", x.register(32), 0);
            due("register(-1)", x.register(-1), 0);
            load(x, END);
            x.run(0);
            due("register(31)", x.register(31), 0);
            due("register(22)", x.register(22), 0);
            due("register(11)", x.register(11), 0);
            due("register(10)", x.register(10), 131136);
        });
        test("17: with a TRAP, too", x -> {
            FilterForge y = ran("b7 0 0 0 7", "b7 9 0 0 -1", "71 3 0 0 0", END);
            due("register(0)", y.register(0), 7);
            due("register(9)", y.register(9), -1);
            due("register(3)", y.register(3), 0);
            y = ran("b7 0 0 0 7");
            due("register(0) of what goes behind the last one", y.register(0), 7);
        });
        test("18: -1 if there is none", x -> {
            for (int i : new int[] {-1, 64, Integer.MIN_VALUE, Integer.MAX_VALUE}) {
                due("stack(" + i + ")", x.stack(i), -1);
            }
            FilterForge y = ran("7a a 0 -64 -1", "7a a 0 -8 -1", END);
            due("stack(-1)", y.stack(-1), -1);
            due("stack(64)", y.stack(64), -1);
        });
        test("18: 0 ahead of the first", x -> {
            due("stack(0)", x.stack(0), 0);
            due("stack(63)", x.stack(63), 0);
        });
        test("18: bytes 0 to 63, 0 to 255", x -> {
            FilterForge y = ran("72 a 0 -64 255", "72 a 0 -1 128", END);
            due("stack(0)", y.stack(0), 255);
            due("stack(1)", y.stack(1), 0);
            due("stack(62)", y.stack(62), 0);
            due("stack(63)", y.stack(63), 128);
        });
        test("18: behind the latest run() or emulate()", x -> {
            packetOf(x, 3);
            load(x, "72 a 0 -1 9", END);
            raw(x, 0x73);
            x.run(0);
            due("stack(63)", x.stack(63), 9);
            x.emulate(0);
            due("stack(63)", x.stack(63), 0);
        });
    }

    public static void main(String[] args) {
        loading();
        running();
        codes();
        ops();
        goings();
        memory();
        reads();
        told();
        finish("EdgeProgramTest");
    }
}
