import java.util.ArrayList;
import java.util.List;

/** The edges of looking a PROGRAM through, and of what is known (promises 9, 10, 12; Terms 4). */
public final class EdgeKnownTest extends Edge {
    private static final long MOST = -1;
    private static final long HALF = Long.MIN_VALUE;
    private static final long LOW32 = 0xffffffffL;
    private static final long TOP = 1L << 32;

    private static FilterForge loaded(String... rows) {
        FilterForge x = new FilterForge();
        due("load", load(x, rows), rows.length);
        return x;
    }

    /** verify() of these, with r0 = 0 and the end behind them. */
    private static FilterForge verified(int due, String... rows) {
        List<String> all = new ArrayList<>(List.of(rows));
        all.add("b7 0 0 0 0");
        all.add(END);
        return verifiedAlone(due, all.toArray(new String[0]));
    }

    private static FilterForge verifiedAlone(int due, String... rows) {
        FilterForge x = loaded(rows);
        due("verify of " + String.join(", ", rows), x.verify(), due);
        return x;
    }

    private static void tells(FilterForge x, int i, int r, long kind, long low, long high, long sure, long ones) {
        String call = "known(" + i + ", " + r + ", ";
        due(call + "0)", x.known(i, r, 0), kind);
        due(call + "1)", x.known(i, r, 1), low);
        due(call + "2)", x.known(i, r, 2), high);
        due(call + "3)", x.known(i, r, 3), sure);
        due(call + "4)", x.known(i, r, 4), ones);
    }

    private static void exact(FilterForge x, int i, int r, long number) {
        tells(x, i, r, 1, number, number, -1, number);
    }

    private static void nothing(FilterForge x, int i, int r) {
        tells(x, i, r, -1, 0, 0, 0, 0);
    }

    private static void notSet(FilterForge x, int i, int r) {
        tells(x, i, r, 0, 0, 0, 0, 0);
    }

    private static void constant(List<String> rows, int r, long number) {
        rows.add("b7 " + r + " 0 0 " + (number >> 32));
        rows.add("67 " + r + " 0 0 32");
        rows.add("b4 9 0 0 " + (int) number);
        rows.add("4f " + r + " 9 0 0");
    }

    /** REGISTER r becomes a NUMBER from low to high, no BIT of which is KNOWN; 8 is used for it. */
    private static void range(List<String> rows, int r, long low, long high) {
        rows.add("7a a 0 -8 0");
        rows.add("79 " + r + " a -8 0");
        constant(rows, 8, low);
        rows.add("3d " + r + " 8 1 0");
        rows.add(END);
        constant(rows, 8, high);
        rows.add("bd " + r + " 8 1 0");
        rows.add(END);
    }

    /** What is known behind a row on r6, l to h, and r7, m to n. */
    private static FilterForge behind(long l, long h, long m, long n, String row) {
        List<String> rows = new ArrayList<>();
        rows.add("b7 0 0 0 0");
        range(rows, 6, l, h);
        range(rows, 7, m, n);
        rows.add(row);
        rows.add("b7 0 0 0 0");
        rows.add(END);
        FilterForge x = loaded(rows.toArray(new String[0]));
        due("verify", x.verify(), 0);
        tells(x, rows.size() - 3, 6, 1, l, h, l == h ? -1 : 0, l == h ? l : 0);
        tells(x, rows.size() - 3, 7, 1, m, n, m == n ? -1 : 0, m == n ? m : 0);
        return x;
    }

    private static void op(int op, long l, long h, long m, long n, long low, long high, long sure, long ones) {
        FilterForge x = behind(l, h, m, n, Integer.toHexString(op << 4 | 15) + " 6 7 0 0");
        tells(x, x.count(1) - 2, 6, 1, low, high, sure, ones);
    }

    private static void op32(int op, long l, long h, long m, long n, long low, long high, long sure, long ones) {
        FilterForge x = behind(l, h, m, n, Integer.toHexString(op << 4 | 12) + " 6 7 0 0");
        tells(x, x.count(1) - 2, 6, 1, low, high, sure, ones);
    }

    private static void verifying() {
        test("9: -1: there is none", x -> {
            due("verify()", x.verify(), -1);
            compile(x, "ip and");
            due("verify()", x.verify(), -1);
            nothing(x, 0, 0);
        });
        test("9: 0, it is ACCEPTED", x -> {
            verifiedAlone(0, "b7 0 0 0 0", END);
            compile(x, "port 1");
            due("verify()", x.verify(), 0);
        });
        test("9: 16 times the number of the INSTRUCTION, and its OFFENCE: at 0, at the 250th", x -> {
            verifiedAlone(4, END);
            String[] rows = new String[250];
            java.util.Arrays.fill(rows, "b7 0 0 0 0");
            rows[249] = "b7 2 0 0 0";
            verifiedAlone(249 * 16 + 2, rows);
            rows[249] = "1 0 0 0 0";
            verifiedAlone(249 * 16 + 1, rows);
            rows[249] = END;
            verifiedAlone(0, rows);
            rows[0] = "b7 6 0 0 0";
            for (int i = 1; i < 249; i++) {
                rows[i] = "7 6 0 0 1";
            }
            verifiedAlone(249 * 16 + 4, rows);
        });
        test("9: the PROGRAM that is, and again the same", x -> {
            load(x, END);
            due("verify()", x.verify(), 4);
            due("verify()", x.verify(), 4);
            load(x, "b7 0 0 0 0", END);
            due("verify()", x.verify(), 0);
            due("verify()", x.verify(), 0);
            tape(x, 1, 2, 3);
            x.load();
            due("verify()", x.verify(), 0);
        });
        test("OFFENCE 1: as TRAP 1", x -> {
            verified(1, "0 0 0 0 0");
            verified(17, "b7 6 0 0 0", "7 6 0 1 0");
            verified(17, "b7 6 0 0 0", "f 6 b 0 0");
            verified(17, "b7 6 0 0 0", "87 6 0 0 1");
        });
        test("OFFENCE 1, 2: also of what nothing comes to", x -> {
            verifiedAlone(33, "b7 0 0 0 0", END, "0 0 0 0 0", END);
            verifiedAlone(34, "b7 0 0 0 0", END, "5 0 0 -1 0", END);
            verifiedAlone(34, "b7 0 0 0 0", END, "b7 0 0 0 0");
        });
        test("First each INSTRUCTION in order: 1, 2 ahead of all others", x -> {
            verified(17, "bf 6 2 0 0", "0 0 0 0 0");
            verified(18, "bf 6 2 0 0", "5 0 0 -1 0");
            verifiedAlone(18, "bf 6 2 0 0", "b7 0 0 0 0");
        });
        test("First each INSTRUCTION in order: 1 and 2 by their INSTRUCTIONS", x -> {
            verified(2, "5 0 0 -1 0", "0 0 0 0 0");
            verified(1, "0 0 0 0 0", "5 0 0 -1 0");
            verifiedAlone(1, "6 0 0 7 0");
            verifiedAlone(1, "0 0 0 0 0");
        });
        test("OFFENCE 2: it may go anywhere but behind itself", x -> {
            verified(2, "5 0 0 -1 0");
            verified(18, "b7 6 0 0 0", "5 0 0 -2 0");
            verified(18, "b7 6 0 0 0", "5 0 0 -3 0");
            verified(2, "5 0 0 -32768 0");
            verified(0, "5 0 0 0 0");
            verified(2, "15 1 0 -1 0");
            verified(18, "b7 6 0 0 0", "16 1 0 -2 0");
            verified(0, "15 1 0 0 0");
        });
        test("OFFENCE 2: within the PROGRAM, up to the last one", x -> {
            verifiedAlone(0, "b7 0 0 0 0", "5 0 0 1 0", END, END);
            verifiedAlone(18, "b7 0 0 0 0", "5 0 0 2 0", END, END);
            verifiedAlone(0, "b7 0 0 0 0", "15 0 0 1 0", END, END);
            verifiedAlone(18, "b7 0 0 0 0", "15 0 0 2 0", END, END);
            verifiedAlone(18, "b7 0 0 0 0", "1e 0 0 32767 0", END, END);
        });
        test("OFFENCE 2: each of those that go", x -> {
            for (int op : new int[] {1, 2, 3, 4, 5, 6, 7, 10, 11, 12, 13}) {
                for (int low : new int[] {5, 6, 13, 14}) {
                    verified(2, Integer.toHexString(op << 4 | low) + " 1 0 -1 0");
                    verified(2, Integer.toHexString(op << 4 | low) + " 1 0 2 0");
                }
            }
        });
        test("OFFENCE 2: also by a way that it never goes", x -> verified(2, "25 1 0 -1 9999"));
        test("OFFENCE 2: the last one and not the end", x -> {
            verifiedAlone(18, "b7 0 0 0 0", "b7 0 0 0 0");
            verifiedAlone(18, "b7 0 0 0 0", "30 0 0 0 0");
            verifiedAlone(18, "b7 0 0 0 0", "5 0 0 0 0");
            verifiedAlone(18, "b7 0 0 0 0", "5 0 0 -2 0");
            verifiedAlone(18, "b7 0 0 0 0", "72 a 0 -1 0");
            verifiedAlone(2, "b7 0 0 0 0");
            verifiedAlone(2, "5 0 0 0 0");
        });
        test("OFFENCE 2: the end may stand anywhere", x -> verifiedAlone(0, "b7 0 0 0 0", "15 0 0 1 1", END, END));
    }

    private static void beginning() {
        test("Ahead of 0: r1 is a NUMBER, 0 to 256; r10 a POINTER with 0; all else is NOT SET", x -> {
            FilterForge y = verified(0);
            for (int r = 0; r <= 9; r++) {
                due("kind of " + r, y.known(0, r, 0), r == 1 ? 1 : 0);
                due("low of " + r, y.known(0, r, 1), 0);
                due("high of " + r, y.known(0, r, 2), r == 1 ? 256 : 0);
            }
            tells(y, 0, 10, 2, 0, 0, -1, 0);
            for (int i = 0; i < 64; i++) {
                due("SET " + i, y.known(0, 11, i), 0);
            }
        });
        test("10: -1 with what 0: there is no such; else 0", x -> {
            FilterForge y = verified(0);
            nothing(y, -1, 0);
            nothing(y, 2, 0);
            nothing(y, 4000, 0);
            nothing(y, Integer.MAX_VALUE, 0);
            nothing(y, Integer.MIN_VALUE, 0);
            nothing(y, 0, -1);
            nothing(y, 0, 12);
            nothing(y, 0, Integer.MAX_VALUE);
            nothing(y, 0, Integer.MIN_VALUE);
            nothing(y, 2, 11);
        });
        test("10: no such what: 0", x -> {
            FilterForge y = verified(0);
            for (int what : new int[] {-1, 5, 64, Integer.MIN_VALUE, Integer.MAX_VALUE}) {
                due("known(0, 1, " + what + ")", y.known(0, 1, what), 0);
                due("known(0, 10, " + what + ")", y.known(0, 10, what), 0);
                due("known(9, 1, " + what + ")", y.known(9, 1, what), 0);
            }
        });
        test("10: of r 11 what 0 to 63; else 0", x -> {
            FilterForge y = verified(0, "7a a 0 -64 0", "7a a 0 -8 0");
            for (int i = -1; i <= 64; i++) {
                due("known(2, 11, " + i + ")", y.known(2, 11, i), i >= 0 && i < 8 || i >= 56 && i < 64 ? 1 : 0);
            }
            due("known(2, 11, least)", y.known(2, 11, Integer.MIN_VALUE), 0);
            due("known(2, 11, greatest)", y.known(2, 11, Integer.MAX_VALUE), 0);
        });
        test("10: 0 of NOT SET: LOW, HIGH, BITS", x -> {
            FilterForge y = verified(0, "b7 2 0 0 7", "30 0 0 0 0");
            exact(y, 1, 2, 7);
            notSet(y, 2, 2);
            notSet(y, 0, 9);
        });
        test("10: ahead of the first verify() there is none", x -> {
            load(x, "b7 0 0 0 0", END);
            nothing(x, 0, 1);
            x.translate();
            nothing(x, 0, 1);
            packetOf(x, 3);
            x.run(0);
            nothing(x, 0, 1);
        });
        test("10: up to the one with the OFFENCE", x -> {
            FilterForge y = verified(16 * 2 + 4, "b7 6 0 0 7", "b7 7 0 0 8", "bf 2 3 0 0", "b7 6 0 0 9");
            exact(y, 1, 6, 7);
            exact(y, 2, 7, 8);
            nothing(y, 3, 6);
        });
        test("10: none with OFFENCE 1, 2", x -> {
            FilterForge y = verified(17, "b7 6 0 0 7", "0 0 0 0 0");
            nothing(y, 0, 1);
            y = verified(18, "b7 6 0 0 7", "5 0 0 -1 0");
            nothing(y, 0, 1);
            nothing(y, 1, 6);
        });
        test("10: the latest verify(): one with OFFENCE 1, or a shorter one, behind another one", x -> {
            load(x, "b7 0 0 0 0", "b7 6 0 0 7", END);
            x.verify();
            exact(x, 2, 6, 7);
            load(x, "b7 0 0 0 0", END);
            exact(x, 2, 6, 7);
            x.verify();
            nothing(x, 2, 6);
            load(x, "0 0 0 0 0");
            exact(x, 1, 0, 0);
            x.verify();
            nothing(x, 0, 1);
        });
        test("10: what it knew stays through compile(), load(), run(), translate(), emulate()", x -> {
            packetOf(x, 3);
            load(x, "b7 0 0 0 0", "b7 6 0 0 7", END);
            x.verify();
            compile(x, "port 1");
            x.translate();
            x.run(0);
            x.emulate(0);
            exact(x, 2, 6, 7);
            nothing(x, 3, 6);
        });
        test("12: What known() tells stays, also if it is not ACCEPTED", x -> {
            load(x, "b7 0 0 0 0", "b7 6 0 0 7", END);
            x.verify();
            load(x, "b7 0 0 0 0", "bf 6 2 0 0", END);
            due("translate()", x.translate(), -1);
            exact(x, 2, 6, 7);
        });
    }

    private static void coming() {
        test("if none comes, the INSTRUCTION is passed over: behind CODE 5", x -> {
            FilterForge y = verifiedAlone(0, "b7 0 0 0 0", "5 0 0 2 0", "bf 6 2 0 0", "71 6 0 0 0", END);
            nothing(y, 2, 0);
            nothing(y, 3, 0);
            nothing(y, 2, 11);
            exact(y, 4, 0, 0);
        });
        test("if none comes, the INSTRUCTION is passed over: behind the end", x -> {
            FilterForge y = verifiedAlone(0, "b7 0 0 0 0", END, "bf 6 2 0 0", END);
            nothing(y, 2, 0);
            nothing(y, 3, 0);
        });
        test("if none comes: nor from what was passed over", x -> {
            FilterForge y = verifiedAlone(0, "b7 0 0 0 0", "5 0 0 3 0", "b7 6 0 0 0", "15 6 0 0 0", "b7 7 0 0 0", END);
            nothing(y, 3, 0);
            nothing(y, 4, 0);
            exact(y, 5, 0, 0);
            notSet(y, 5, 6);
        });
        test("JOINED of all that come there: NUMBERS", x -> {
            FilterForge y = verified(0, "b7 6 0 0 5", "15 1 0 1 0", "b7 6 0 0 7");
            tells(y, 3, 6, 1, 5, 7, ~2L, 5);
            y = verified(0, "b7 6 0 0 4", "15 1 0 3 0", "b7 6 0 0 7", "15 1 0 1 1", "b7 6 0 0 5");
            tells(y, 5, 6, 1, 4, 7, ~3L, 4);
        });
        test("JOINED: the least LOW, the greatest HIGH, without sign", x -> {
            FilterForge y = verified(0, "b7 6 0 0 5", "15 1 0 1 0", "b7 6 0 0 -1");
            tells(y, 3, 6, 1, 5, MOST, ~(MOST ^ 5), 5);
            y = verified(0, "b7 6 0 0 -1", "15 1 0 1 0", "b7 6 0 0 0");
            tells(y, 3, 6, 1, 0, MOST, 0, 0);
        });
        test("JOINED: twice the same stays the same", x -> {
            FilterForge y = verified(0, "b7 6 0 0 5", "15 1 0 1 0", "b7 6 0 0 5");
            exact(y, 3, 6, 5);
        });
        test("JOINED: BITS that are KNOWN and the same in both", x -> {
            // 0 to 255 with the BITS above, and 256: the BIT 8 is not the same.
            FilterForge y = verified(0, "bf 7 1 0 0", "30 0 0 0 0", "bf 6 0 0 0", "15 7 0 1 0", "b7 6 0 0 256");
            tells(y, 5, 6, 1, 0, 256, ~0x1ffL, 0);
        });
        test("JOINED: POINTERS are one", x -> {
            FilterForge y = verified(0, "bf 6 a 0 0", "15 1 0 1 0", "17 6 0 0 8");
            tells(y, 3, 6, 2, 0, -8, 7, 0);
            y = verified(0, "bf 6 a 0 0", "17 6 0 0 8", "15 1 0 1 0", "17 6 0 0 8");
            tells(y, 4, 6, 2, -16, -8, ~8L, -16);
        });
        test("JOINED: unlike kinds are NOT SET", x -> {
            FilterForge y = verified(0, "bf 6 a 0 0", "15 1 0 1 0", "b7 6 0 0 0");
            notSet(y, 3, 6);
            y = verified(0, "b7 6 0 0 0", "15 1 0 1 0", "bf 6 a 0 0");
            notSet(y, 3, 6);
            verified(16 * 3 + 4, "b7 6 0 0 0", "15 1 0 1 0", "bf 6 a 0 0", "7 6 0 0 1");
        });
        test("JOINED: with NOT SET it is NOT SET", x -> {
            FilterForge y = verified(0, "15 1 0 1 0", "b7 6 0 0 7");
            notSet(y, 2, 6);
            y = verified(0, "b7 6 0 0 7", "15 1 0 1 0", "30 0 0 0 0");
            exact(y, 3, 6, 7);
            notSet(y, 3, 1);
            notSet(y, 3, 0);
        });
        test("JOINED: a third does not bring back what two lost", x -> {
            FilterForge y = verified(0, "b7 6 0 0 0", "15 1 0 3 0", "bf 6 a 0 0", "15 1 0 1 1", "b7 6 0 0 0");
            notSet(y, 5, 6);
        });
        test("JOINED: SET are those bytes that are in all", x -> {
            FilterForge y = verified(0, "72 a 0 -1 0", "15 1 0 2 0", "72 a 0 -2 0", "5 0 0 1 0", "72 a 0 -3 0");
            due("SET 63", y.known(5, 11, 63), 1);
            due("SET 62", y.known(5, 11, 62), 0);
            due("SET 61", y.known(5, 11, 61), 0);
            due("SET 62 ahead", y.known(3, 11, 62), 1);
            due("SET 61 ahead", y.known(4, 11, 61), 0);
        });
        test("If LOW is HIGH, all BITS are KNOWN by it", x -> {
            FilterForge y = verified(0, "25 1 0 1 0", "5 0 0 0 0", "b7 6 0 0 0");
            exact(y, 1, 1, 0);
        });
        test("if all BITS are KNOWN, LOW and HIGH are that", x -> {
            FilterForge y = verified(0, "bf 6 1 0 0", "47 6 0 0 1", "57 6 0 0 1");
            tells(y, 2, 6, 1, 1, 511, 1, 1);
            exact(y, 3, 6, 1);
        });
    }

    private static void uses() {
        test("OFFENCE 4: D but of op 11", x -> {
            for (int op = 0; op <= 12; op++) {
                for (int low : new int[] {4, 7}) {
                    verified(op == 11 ? 0 : 4, Integer.toHexString(op << 4 | low) + (op == 8 ? " 2 0 0 0" : " 2 0 0 1"));
                }
            }
        });
        test("OFFENCE 4: y", x -> {
            for (int op = 0; op <= 12; op++) {
                if (op != 8) {
                    verified(4, Integer.toHexString(op << 4 | 15) + " 1 2 0 0");
                    verified(4, Integer.toHexString(op << 4 | 12) + " 1 2 0 0");
                }
            }
        });
        test("OFFENCE 4: D and y of those that go", x -> {
            for (int op : new int[] {1, 2, 3, 4, 5, 6, 7, 10, 11, 12, 13}) {
                for (int low : new int[] {5, 6}) {
                    verified(4, Integer.toHexString(op << 4 | low) + " 2 0 0 0");
                    verified(4, Integer.toHexString(op << 4 | 8 | low) + " 1 2 0 0");
                    verified(4, Integer.toHexString(op << 4 | 8 | low) + " 2 1 0 0");
                }
            }
        });
        test("OFFENCE 4: the base", x -> {
            for (String code : new String[] {"61", "69", "71", "79"}) {
                verified(4, code + " 0 2 0 0");
            }
            for (String code : new String[] {"62", "6a", "72", "7a", "63", "6b", "73", "7b"}) {
                verified(4, code + " 2 0 0 0");
            }
        });
        test("OFFENCE 4: what is stored; what is loaded need not be SET ahead", x -> {
            for (String code : new String[] {"63", "6b", "73", "7b"}) {
                verified(4, code + " a 2 -8 0");
                verified(0, code + " a 1 -8 0");
            }
            verified(0, "7a a 0 -8 0", "79 2 a -8 0");
        });
        test("OFFENCE 4: S of READ", x -> {
            verified(4, "40 0 2 0 0");
            verified(4, "48 0 0 0 0");
            verified(0, "50 0 1 0 0");
            verified(0, "30 0 0 0 0");
        });
        test("OFFENCE 4: r0 at the end", x -> {
            verifiedAlone(4, END);
            verifiedAlone(16 + 4, "b7 6 0 0 0", END);
            verifiedAlone(16 * 3 + 4, "15 1 0 2 0", "b7 0 0 0 0", "5 0 0 0 0", END);
        });
        test("OFFENCE 4: CODE 5 uses none", x -> verified(0, "5 0 0 0 0"));
        test("OFFENCE 5: D, that becomes something, is r10: each op", x -> {
            for (int op = 0; op <= 12; op++) {
                for (int low : new int[] {4, 7}) {
                    verified(5, Integer.toHexString(op << 4 | low) + (op == 8 ? " a 0 0 0" : " a 0 0 1"));
                    if (op != 8) {
                        verified(5, Integer.toHexString(op << 4 | 8 | low) + " a 1 0 0");
                    }
                }
            }
        });
        test("OFFENCE 5: D, that becomes something, is r10: loading", x -> {
            for (String code : new String[] {"61", "69", "71", "79"}) {
                verified(16 + 5, "7a a 0 -8 0", code + " a a -8 0");
            }
        });
        test("OFFENCE 5: not of storing and of those that go", x -> {
            verified(0, "72 a 0 -8 0");
            verified(6, "15 a 0 0 0");
        });
        test("OFFENCES: the first of an INSTRUCTION: 4 ahead of 5", x -> {
            verified(4, "f a 2 0 0");
            verified(4, "bf a 2 0 0");
            verified(4, "79 a 2 0 0");
        });
        test("OFFENCES: the first of an INSTRUCTION: 4 ahead of 6 and 7", x -> {
            verified(4, "2f 2 a 0 0");
            verified(4, "7b 1 2 0 0");
            verified(4, "7b 2 a 0 0");
            verified(4, "1d a 2 0 0");
        });
        test("OFFENCES: the first of an INSTRUCTION: 5 ahead of 6", x -> {
            verified(5, "bc a a 0 0");
            verified(5, "27 a 0 0 1");
            verified(5, "f a a 0 0");
            verified(5, "87 a 0 0 0");
        });
        test("OFFENCES: the first of an INSTRUCTION: 5 ahead of 7", x -> {
            verified(5, "79 a a 0 0");
            verified(5, "79 a 1 0 0");
            verified(5, "79 a a -8 0");
        });
        test("OFFENCES: the first of an INSTRUCTION: 6 ahead of 7", x -> {
            verified(6, "7b 1 a 0 0");
            verified(6, "7b a a 0 0");
        });
        test("OFFENCES: of the first one that has any", x -> {
            verified(16 + 7, "b7 6 0 0 0", "71 6 1 0 0", "bf 6 2 0 0");
            verified(16 + 4, "b7 6 0 0 0", "bf 6 2 0 0", "71 6 1 0 0");
        });
        test("OFFENCE 6: op 11 with S of 64 bits: D becomes that", x -> {
            FilterForge y = verified(0, "bf 6 a 0 0", "bf 7 6 0 0");
            tells(y, 2, 7, 2, 0, 0, -1, 0);
            verified(6, "bc 6 a 0 0");
            verified(0, "bf 6 a 0 0", "b7 6 0 0 1");
            verified(0, "bf 6 a 0 0", "b4 6 0 0 1");
            verified(0, "bf 6 a 0 0", "bc 6 1 0 0");
        });
        test("OFFENCE 6: op 0, 1 of 64 bits with D a POINTER and y a NUMBER", x -> {
            FilterForge y = verified(0, "bf 6 a 0 0", "7 6 0 0 -16", "17 6 0 0 -8", "f 6 1 0 0", "1f 6 1 0 0");
            tells(y, 2, 6, 2, -16, -16, -1, -16);
            tells(y, 3, 6, 2, -8, -8, -1, -8);
            due("kind", y.known(4, 6, 0), 2);
            due("kind", y.known(5, 6, 0), 2);
            verified(16 + 6, "bf 6 a 0 0", "4 6 0 0 1");
            verified(16 + 6, "bf 6 a 0 0", "14 6 0 0 1");
            verified(16 + 6, "bf 6 a 0 0", "c 6 1 0 0");
            verified(16 + 6, "bf 6 a 0 0", "f 6 a 0 0");
            verified(16 + 6, "bf 6 a 0 0", "1f 6 a 0 0");
            verified(6, "f 1 a 0 0");
            verified(6, "1f 1 a 0 0");
        });
        test("OFFENCE 6: each other op", x -> {
            for (int op : new int[] {2, 3, 4, 5, 6, 7, 9, 10, 12}) {
                for (int low : new int[] {4, 7}) {
                    verified(16 + 6, "bf 6 a 0 0", Integer.toHexString(op << 4 | low) + " 6 0 0 0");
                    verified(16 + 6, "bf 6 a 0 0", Integer.toHexString(op << 4 | 8 | low) + " 1 6 0 0");
                }
            }
            verified(16 + 6, "bf 6 a 0 0", "87 6 0 0 0");
            verified(16 + 6, "bf 6 a 0 0", "84 6 0 0 0");
        });
        test("OFFENCE 6: those that go", x -> {
            for (int op : new int[] {1, 2, 3, 4, 5, 6, 7, 10, 11, 12, 13}) {
                for (int low : new int[] {5, 6}) {
                    verified(6, Integer.toHexString(op << 4 | low) + " a 0 0 0");
                    verified(6, Integer.toHexString(op << 4 | 8 | low) + " 1 a 0 0");
                    verified(6, Integer.toHexString(op << 4 | 8 | low) + " a 1 0 0");
                }
            }
        });
        test("OFFENCE 6: what is stored, S of READ, r0 at the end", x -> {
            for (String code : new String[] {"63", "6b", "73", "7b"}) {
                verified(6, code + " a a -8 0");
            }
            for (String code : new String[] {"40", "48", "50"}) {
                verified(6, code + " 0 a 0 0");
            }
            verifiedAlone(16 + 6, "bf 0 a 0 0", END);
        });
        test("OFFENCE 7: the base is a NUMBER, whichever", x -> {
            verified(7, "71 6 1 0 0");
            verified(16 + 7, "b7 6 0 0 131072", "71 7 6 0 0");
            verified(16 + 7, "b7 6 0 0 131072", "72 6 0 0 0");
            verified(16 + 7, "b7 6 0 0 -8", "7a 6 0 0 0");
        });
    }

    private static void places() {
        test("OFFENCE 7: all places are STACK, of each size, by storing", x -> {
            String[] codes = {"72", "6a", "62", "7a"};
            for (int i = 0; i < 4; i++) {
                int size = 1 << i;
                for (int off = -80; off <= 8; off++) {
                    boolean is = off >= -64 && off + size <= 0 && off % size == 0;
                    verified(is ? 0 : 7, codes[i] + " a 0 " + off + " 0");
                }
                verified(7, codes[i] + " a 0 32767 0");
                verified(7, codes[i] + " a 0 -32768 0");
            }
        });
        test("OFFENCE 7: all places are STACK, of each size, by loading", x -> {
            String[] codes = {"71", "69", "61", "79"};
            String[] rows = new String[9];
            for (int k = 0; k < 8; k++) {
                rows[k] = "7a a 0 " + (-8 - 8 * k) + " 0";
            }
            for (int i = 0; i < 4; i++) {
                int size = 1 << i;
                for (int off = -80; off <= 8; off++) {
                    boolean is = off >= -64 && off + size <= 0 && off % size == 0;
                    rows[8] = codes[i] + " 6 a " + off + " 0";
                    verified(is ? 0 : 16 * 8 + 7, rows);
                }
            }
        });
        test("OFFENCE 7: a byte is not SET: each of a size", x -> {
            for (int left = 0; left < 8; left++) {
                String[] rows = new String[9];
                for (int k = 0; k < 8; k++) {
                    rows[k] = k == left ? "b7 7 0 0 0" : "72 a 0 " + (-24 + k) + " 0";
                }
                rows[8] = "79 6 a -24 0";
                verified(16 * 8 + 7, rows);
                rows[left] = "72 a 0 " + (-24 + left) + " 0";
                verified(0, rows);
            }
            verified(7, "71 6 a -1 0");
            verified(16 + 7, "72 a 0 -2 0", "71 6 a -1 0");
            verified(16 + 7, "62 a 0 -8 0", "79 6 a -8 0");
        });
        test("Storing sets the bytes, if LOW is HIGH: just these", x -> {
            String[] codes = {"72", "6a", "62", "7a", "73", "6b", "63", "7b"};
            for (int i = 0; i < 8; i++) {
                FilterForge y = verified(0, codes[i] + " a " + (i < 4 ? 0 : 1) + " -16 0");
                for (int k = 0; k < 64; k++) {
                    due("SET " + k, y.known(1, 11, k), k >= 48 && k < 48 + (1 << (i & 3)) ? 1 : 0);
                }
            }
        });
        test("Storing sets no bytes, if LOW is not HIGH; those that are SET stay", x -> {
            FilterForge y = verified(0, "7a a 0 -8 0", "30 0 0 0 0", "57 0 0 0 56", "bf 6 a 0 0", "f 6 0 0 0", "72 6 0 -64 7");
            for (int k = 0; k < 64; k++) {
                due("SET " + k, y.known(6, 11, k), k >= 56 ? 1 : 0);
            }
        });
        test("OFFENCE 7: LOW + OFF, HIGH + OFF: at both edges of the STACK", x -> {
            String[] rows = {"30 0 0 0 0", "57 0 0 0 56", "bf 6 a 0 0", "f 6 0 0 0", ""};
            for (int off = -72; off <= -56; off++) {
                rows[4] = "7a 6 0 " + off + " 0";
                verified(off == -64 ? 0 : 16 * 4 + 7, rows);
                rows[4] = "72 6 0 " + off + " 0";
                verified(off >= -64 && off <= -57 ? 0 : 16 * 4 + 7, rows);
            }
        });
        test("OFFENCE 7: worked as op 0 with a NUMBER that is OFF: what gets to 2^64 is ANY", x -> {
            String[] rows = {"30 0 0 0 0", "57 0 0 0 48", "bf 6 a 0 0", "17 6 0 0 56", "f 6 0 0 0", ""};
            rows[5] = "72 6 0 0 0";
            verified(0, rows);
            rows[5] = "72 6 0 7 0";
            verified(0, rows);
            rows[5] = "72 6 0 -8 0";
            verified(16 * 5 + 7, rows);
            rows[5] = "72 6 0 8 0";
            verified(16 * 5 + 7, rows);
            // If LOW is HIGH, it is worked modulo 2^64.
            verified(0, "bf 6 a 0 0", "17 6 0 0 56", "7a 6 0 -8 0");
            verified(0, "bf 6 a 0 0", "7 6 0 0 8", "7a 6 0 -16 0");
        });
        test("OFFENCE 7: KNOWN to be divisible by how many bytes: by BITS", x -> {
            String[] codes = {"72", "6a", "62", "7a"};
            for (int i = 0; i < 4; i++) {
                for (int k = 0; k < 4; k++) {
                    verified(k >= i ? 0 : 16 * 4 + 7, "30 0 0 0 0", "57 0 0 0 " + (56 & -(1 << k) | (1 << k)),
                        "bf 6 a 0 0", "f 6 0 0 0", codes[i] + " 6 0 -64 0");
                }
            }
        });
        test("OFFENCE 7: KNOWN to be divisible: not by BITS that are KNOWN to be 1", x -> {
            verified(16 * 5 + 7, "30 0 0 0 0", "57 0 0 0 48", "7 0 0 0 4", "bf 6 a 0 0", "f 6 0 0 0", "7a 6 0 -64 0");
            verified(0, "30 0 0 0 0", "57 0 0 0 48", "7 0 0 0 4", "bf 6 a 0 0", "f 6 0 0 0", "62 6 0 -64 0");
            verified(0, "30 0 0 0 0", "57 0 0 0 48", "7 0 0 0 4", "bf 6 a 0 0", "f 6 0 0 0", "7a 6 0 -60 0");
        });
        test("OFFENCE 7: (loading) from LOW's first to HIGH's last", x -> {
            for (int left = -32; left < -8; left++) {
                List<String> rows = new ArrayList<>();
                for (int k = -32; k < -8; k++) {
                    rows.add(k == left ? "b7 7 0 0 0" : "72 a 0 " + k + " 0");
                }
                rows.addAll(List.of("30 0 0 0 0", "57 0 0 0 8", "bf 6 a 0 0", "f 6 0 0 0", "79 7 6 -24 0"));
                verified(left < -24 ? 0 : 16 * 28 + 7, rows.toArray(new String[0]));
            }
        });
        test("OFFENCE 7: (loading) one byte of a whole STACK is not SET", x -> {
            for (int left = 0; left < 64; left++) {
                List<String> rows = new ArrayList<>();
                for (int k = 0; k < 64; k++) {
                    rows.add(k == left ? "b7 7 0 0 0" : "72 a 0 " + (k - 64) + " 0");
                }
                rows.addAll(List.of("30 0 0 0 0", "57 0 0 0 63", "bf 6 a 0 0", "f 6 0 0 0", "71 7 6 -64 0"));
                verified(16 * 68 + 7, rows.toArray(new String[0]));
                rows.set(65, "57 0 0 0 56");
                rows.set(68, "79 7 6 -64 0");
                verified(16 * 68 + 7, rows.toArray(new String[0]));
                rows.set(left, "72 a 0 " + (left - 64) + " 0");
                verified(0, rows.toArray(new String[0]));
            }
        });
        test("OFFENCE 7: (loading) the one byte that is not SET is beside the other 63", x -> {
            for (int left = 0; left < 64; left += 63) {
                List<String> rows = new ArrayList<>();
                for (int k = 0; k < 64; k++) {
                    rows.add(k == left ? "b7 7 0 0 0" : "72 a 0 " + (k - 64) + " 0");
                }
                rows.addAll(List.of("30 0 0 0 0", "57 0 0 0 63", "25 0 0 3 62", "bf 6 a 0 0", "f 6 0 0 0",
                    "71 7 6 " + (left == 0 ? -63 : -64) + " 0"));
                verified(0, rows.toArray(new String[0]));
                rows.set(69, "71 7 6 " + (left == 0 ? -64 : -63) + " 0");
                verified(16 * 69 + 7, rows.toArray(new String[0]));
            }
        });
        test("OFFENCE 7: a whole STACK from LOW to HIGH", x -> {
            List<String> rows = new ArrayList<>();
            for (int k = 0; k < 8; k++) {
                rows.add("7a a 0 " + (-64 + 8 * k) + " 0");
            }
            rows.addAll(List.of("30 0 0 0 0", "57 0 0 0 63", "bf 6 a 0 0", "f 6 0 0 0", "71 7 6 -64 0"));
            verified(0, rows.toArray(new String[0]));
            rows.set(12, "72 6 0 -64 0");
            verified(0, rows.toArray(new String[0]));
            rows.set(12, "71 7 6 -63 0");
            verified(16 * 12 + 7, rows.toArray(new String[0]));
            rows.set(12, "71 7 6 -65 0");
            verified(16 * 12 + 7, rows.toArray(new String[0]));
        });
    }

    private static void comings() {
        test("op 11: y: NUMBERS K: LOW and HIGH are K, of 64 bits with its sign", x -> {
            FilterForge y = verified(0, "b7 6 0 0 -1", "b4 7 0 0 -1", "b7 8 0 0 2147483647", "bf 9 1 0 0", "bc 2 1 0 0");
            exact(y, 5, 6, -1);
            exact(y, 5, 7, LOW32);
            exact(y, 5, 8, 2147483647);
            tells(y, 5, 9, 1, 0, 256, 0, 0);
            tells(y, 5, 2, 1, 0, 256, ~LOW32, 0);
        });
        test("Loading: 0 to the greatest of so many bytes, higher BITS 0", x -> {
            FilterForge y = verified(0, "7a a 0 -8 7", "71 6 a -8 0", "69 7 a -8 0", "61 8 a -8 0", "79 9 a -8 0");
            tells(y, 5, 6, 1, 0, 255, ~255L, 0);
            tells(y, 5, 7, 1, 0, 65535, ~65535L, 0);
            tells(y, 5, 8, 1, 0, LOW32, ~LOW32, 0);
            tells(y, 5, 9, 1, 0, MOST, 0, 0);
        });
        test("READ: 0 to the greatest of so many bytes, higher BITS 0", x -> {
            String[] codes = {"30", "28", "20", "50", "48", "40"};
            long[] greatest = {255, 65535, LOW32};
            for (int i = 0; i < 6; i++) {
                FilterForge y = verified(0, codes[i] + " 0 " + (i < 3 ? 0 : 1) + " 0 0");
                tells(y, 1, 0, 1, 0, greatest[i % 3], ~greatest[i % 3], 0);
            }
        });
        test("A READ leaves REGISTERS 1 to 5 NOT SET, no others, and the STACK bytes SET", x -> {
            FilterForge y = verified(0, "b7 2 0 0 2", "b7 3 0 0 3", "b7 4 0 0 4", "b7 5 0 0 5", "b7 6 0 0 6", "b7 9 0 0 9",
                "72 a 0 -1 0", "30 0 0 0 0");
            for (int r = 1; r <= 5; r++) {
                due("kind ahead", y.known(7, r, 0), 1);
                notSet(y, 8, r);
            }
            exact(y, 8, 6, 6);
            exact(y, 8, 9, 9);
            tells(y, 8, 10, 2, 0, 0, -1, 0);
            due("SET", y.known(8, 11, 63), 1);
            verified(16 + 4, "50 0 1 0 0", "50 0 1 0 0");
        });
        test("+ : l + m to h + n, if that is below 2^64, else ANY's", x -> {
            op(0, 1, 2, 3, 5, 4, 7, 0, 0);
            op(0, 1, -2, 0, 1, 1, MOST, 0, 0);
            op(0, 1, -2, 0, 2, 0, MOST, 0, 0);
            op(0, 1, -1, 1, 1, 0, MOST, 0, 0);
            op(0, 1, HALF, 1, Long.MAX_VALUE, 2, MOST, 0, 0);
            op(0, 1, HALF, 1, HALF, 0, MOST, 0, 0);
        });
        test("- : l - n to h - m, if l is not below n, else ANY's", x -> {
            op(1, 5, 9, 0, 5, 0, 9, 0, 0);
            op(1, 5, 9, 1, 5, 0, 8, 0, 0);
            op(1, 5, 9, 1, 6, 0, MOST, 0, 0);
            op(1, 5, 9, 5, 5, 0, 4, 0, 0);
            op(1, HALF, -1, 1, HALF, 0, -2, 0, 0);
            op(1, Long.MAX_VALUE, -1, 1, HALF, 0, MOST, 0, 0);
        });
        test("* : l * m to h * n, if below 2^64, else ANY's", x -> {
            op(2, 2, 3, 4, 5, 8, 15, 0, 0);
            op(2, 1, LOW32, 1, TOP + 1, 1, MOST, 0, 0);
            op(2, 1, TOP, 1, TOP, 0, MOST, 0, 0);
            op(2, 1, -1, 1, 1, 1, MOST, 0, 0);
            op(2, 1, -1, 1, 2, 0, MOST, 0, 0);
            op(2, 1, -1, 0, 0, 0, 0, -1, 0);
            op(2, 1, 2, 1, HALF, 0, MOST, 0, 0);
            op(2, 1, 2, 1, Long.MAX_VALUE, 1, -2, 0, 0);
        });
        test("/ : l / n to h / m, if m is above 0, else 0 to h", x -> {
            op(3, 10, 20, 2, 5, 2, 10, 0, 0);
            op(3, 10, 20, 1, 5, 2, 20, 0, 0);
            op(3, 10, 20, 0, 5, 0, 20, 0, 0);
            op(3, 10, 20, 0, 0, 0, 20, 0, 0);
            op(3, 10, 20, 21, 30, 0, 0, -1, 0);
            op(3, 1, -1, -1, -1, 0, 1, 0, 0);
            op(3, HALF, -1, 1, HALF, 1, MOST, 0, 0);
        });
        test("what is left: 0 to h, of m above 0 to the lesser one of h and n - 1", x -> {
            op(9, 10, 20, 0, 5, 0, 20, 0, 0);
            op(9, 10, 20, 0, 0, 0, 20, 0, 0);
            op(9, 10, 20, 1, 5, 0, 4, 0, 0);
            op(9, 10, 20, 1, 20, 0, 19, 0, 0);
            op(9, 10, 20, 1, 21, 0, 20, 0, 0);
            op(9, 10, 20, 1, 22, 0, 20, 0, 0);
            op(9, 10, 20, 1, 1, 0, 0, -1, 0);
            op(9, 1, -1, 1, -1, 0, -2, 0, 0);
        });
        test("and: 0 to the lesser one of h and n", x -> {
            op(5, 10, 20, 3, 5, 0, 5, 0, 0);
            op(5, 10, 20, 3, 30, 0, 20, 0, 0);
            op(5, 1, -1, 1, HALF, 0, HALF, 0, 0);
        });
        test("or: the greater one of l and m to G", x -> {
            op(4, 10, 20, 3, 5, 10, 31, 0, 0);
            op(4, 3, 5, 10, 20, 10, 31, 0, 0);
            op(4, 0, 15, 0, 16, 0, 31, 0, 0);
            op(4, 0, 15, 0, 15, 0, 15, 0, 0);
            op(4, 0, 1, 0, 1, 0, 1, 0, 0);
            op(4, 1, HALF, 2, 3, 2, MOST, 0, 0);
            op(4, 1, Long.MAX_VALUE, 2, 3, 2, Long.MAX_VALUE, 0, 0);
            op(4, 1, -1, 2, 3, 2, MOST, 0, 0);
        });
        test("xor: 0 to G", x -> {
            op(10, 10, 20, 3, 5, 0, 31, 0, 0);
            op(10, 16, 16, 0, 15, 0, 31, 0, 0);
            op(10, 0, 15, 0, 15, 0, 15, 0, 0);
            op(10, 1, HALF, 2, 3, 0, MOST, 0, 0);
        });
        test("shift to the left by k: l and h shifted, if h is below 2^(64 - k), else ANY's; BITS by k", x -> {
            op(6, 1, 2, 3, 3, 8, 16, 7, 0);
            op(6, 1, (1L << 61) - 1, 3, 3, 8, -8, 7, 0);
            op(6, 1, 1L << 61, 3, 3, 0, MOST, 7, 0);
            op(6, 0, 1, 63, 63, 0, HALF, Long.MAX_VALUE, 0);
            op(6, 0, 2, 63, 63, 0, MOST, Long.MAX_VALUE, 0);
        });
        test("shift to the left by k: the lowest 6 bits of y, 0 too", x -> {
            op(6, 1, -1, 0, 0, 1, MOST, 0, 0);
            op(6, 1, -1, 64, 64, 1, MOST, 0, 0);
            op(6, 1, 2, 65, 65, 2, 4, 1, 0);
            op(6, 0, 1, -1, -1, 0, HALF, Long.MAX_VALUE, 0);
        });
        test("shift to the left by others: ANY's, no BITS", x -> {
            op(6, 1, 2, 3, 4, 0, MOST, 0, 0);
            op(6, 1, 2, 0, 64, 0, MOST, 0, 0);
        });
        test("to the right: l and h shifted; BITS by k", x -> {
            op(7, 8, 100, 2, 2, 2, 25, 3L << 62, 0);
            op(7, 8, 100, 0, 0, 8, 100, 0, 0);
            op(7, 8, 100, 64, 64, 8, 100, 0, 0);
            op(7, 0, -1, 63, 63, 0, 1, -2, 0);
            op(7, 8, 100, 7, 7, 0, 0, -1, 0);
            op(7, HALF, -1, 1, 1, HALF >>> 1, Long.MAX_VALUE, HALF, 0);
            op(7, 8, 100, -1, -1, 0, 0, -1, 0);
        });
        test("to the right by others: 0 to h, no BITS", x -> {
            op(7, 8, 100, 1, 2, 0, 100, 0, 0);
            op(7, 8, 100, 0, 64, 0, 100, 0, 0);
            op(7, 8, -1, 1, 2, 0, MOST, 0, 0);
        });
        test("with sign: if h is below 2^63 as without, else ANY's", x -> {
            for (int k : new int[] {1, 62}) {
                FilterForge y = behind(1, Long.MAX_VALUE, k, k, "cf 6 7 0 0");
                due("LOW", y.known(y.count(1) - 2, 6, 1), 0);
                due("HIGH", y.known(y.count(1) - 2, 6, 2), Long.MAX_VALUE >> k);
                op(12, 1, HALF, k, k, 0, MOST, 0, 0);
            }
            op(12, 8, 100, 1, 2, 0, 100, 0, 0);
            op(12, 0, 0, 1, 2, 0, 0, -1, 0);
            op32(12, 0, 0, 1, 2, 0, 0, -1, 0);
            op(12, 1, Long.MAX_VALUE, 1, 2, 0, Long.MAX_VALUE, 0, 0);
            op(12, 1, HALF, 1, 2, 0, MOST, 0, 0);
        });
        test("0 - D: ANY's, no BITS; if LOW is HIGH of D: that which comes", x -> {
            FilterForge y = behind(1, 2, 5, 5, "87 6 0 0 0");
            tells(y, y.count(1) - 2, 6, 1, 0, MOST, 0, 0);
            y = behind(1, 2, 5, 5, "87 7 0 0 0");
            exact(y, y.count(1) - 2, 7, -5);
            y = behind(1, 2, 0, 0, "84 7 0 0 0");
            exact(y, y.count(1) - 2, 7, 0);
            y = behind(1, 2, 5, 5, "84 6 0 0 0");
            tells(y, y.count(1) - 2, 6, 1, 0, LOW32, ~LOW32, 0);
        });
        test("if LOW is HIGH of both: that which comes", x -> {
            exactOp(0, -1, 1, 0, 0);
            exactOp(1, 0, 1, -1, LOW32);
            exactOp(2, TOP, TOP, 0, 0);
            exactOp(2, LOW32, LOW32, 0xfffffffe00000001L, 1);
            exactOp(3, 7, 0, 0, 0);
            exactOp(3, -1, 2, Long.MAX_VALUE, 0x7fffffff);
            exactOp(9, 7, 0, 7, 7);
            exactOp(9, -1, TOP, LOW32, LOW32);
            exactOp(4, 5, 10, 15, 15);
            exactOp(5, 5, 6, 4, 4);
            exactOp(10, 5, 6, 3, 3);
            exactOp(6, 1, 63, HALF, HALF >>> 32);
            exactOp(6, 3, 63, HALF, HALF >>> 32);
            exactOp(6, 1, 64, 1, 1);
            exactOp(6, 1, 32, TOP, 1);
            exactOp(7, -1, 33, 0x7fffffff, 0x7fffffff);
            exactOp(12, -1, 7, -1, LOW32);
            exactOp(12, HALF, 63, -1, 0);
            exactOp(12, 0x80000000L, 31, 1, LOW32);
            exactOp(12, 0x80000000L, 32, 0, 0x80000000L);
            exactOp(11, 7, -5, -5, LOW32 - 4);
        });
        test("if LOW is HIGH of one alone, it is not that which comes", x -> {
            op(0, 1, 2, 5, 5, 6, 7, 0, 0);
            op(1, 1, 1, 0, 1, 0, 1, 0, 0);
            op(5, 4, 4, 4, 5, 0, 4, ~4L, 0);
        });
    }

    private static void exactOp(int op, long one, long other, long of64, long of32) {
        op(op, one, one, other, other, of64, of64, -1, of64);
        op32(op, one, one, other, other, of32, of32, -1, of32);
    }

    /** What is known of r0, a READ of one byte with a mask, behind a row. */
    private static void masked(int mask, String row, long low, long high, long sure, long ones) {
        FilterForge x = verified(0, "30 0 0 0 0", "57 0 0 0 " + mask, row);
        tells(x, 2, 0, 1, 0, mask & 255, ~(mask & 255L), 0);
        tells(x, 3, 0, 1, low, high, sure, ones);
    }

    private static void bits() {
        test("BITS of +: those that are the same for all numbers with these BITS", x -> {
            masked(0xf0, "7 0 0 0 1", 1, 241, ~0xf0L, 1);
            masked(0xf0, "7 0 0 0 16", 16, 256, ~0x1f0L, 0);
            masked(0xf0, "7 0 0 0 -1", 0, MOST, 15, 15);
            masked(0x0f, "7 0 0 0 241", 241, 256, ~0x1ffL, 0);
            masked(0x0e, "7 0 0 0 1", 1, 15, ~0x0eL, 1);
            masked(0x0f, "f 0 0 0 0", 0, 30, ~0x1fL, 0);
        });
        test("BITS of -", x -> {
            masked(0xf0, "17 0 0 0 1", 0, MOST, 15, 15);
            masked(0xf0, "17 0 0 0 0", 0, 240, ~0xf0L, 0);
            masked(0xf0, "17 0 0 0 16", 0, MOST, 15, 0);
            masked(0x0f, "17 0 0 0 -1", 0, MOST, ~0x1fL, 0);
        });
        test("BITS of and, or, xor", x -> {
            masked(0xf0, "57 0 0 0 60", 0, 60, ~0x30L, 0);
            masked(0xf0, "57 0 0 0 15", 0, 0, -1, 0);
            masked(0xf0, "47 0 0 0 48", 48, 255, ~0xc0L, 48);
            masked(0xf0, "a7 0 0 0 24", 0, 255, ~0xf0L, 8);
            masked(0xf0, "a7 0 0 0 -1", 0, MOST, ~0xf0L, ~0xf0L);
            masked(0xf0, "47 0 0 0 -256", -256, MOST, ~0xf0L, -256);
        });
        test("BITS of shifts by k", x -> {
            masked(0xf0, "67 0 0 0 4", 0, 0xf00, ~0xf00L, 0);
            masked(0xf0, "77 0 0 0 4", 0, 15, ~15L, 0);
            masked(0xf0, "c7 0 0 0 4", 0, 15, ~15L, 0);
            masked(0xf0, "67 0 0 0 58", 0, MOST, (1L << 62) - 1, 0);
            masked(0xf0, "67 0 0 0 60", 0, 0, -1, 0);
            masked(0xf0, "67 0 0 0 64", 0, 240, ~0xf0L, 0);
        });
        test("BITS of shifts by k: those that are KNOWN to be 1, too", x -> {
            FilterForge y = verified(0, "30 0 0 0 0", "47 0 0 0 129", "67 0 0 0 1", "77 0 0 0 2", "c7 0 0 0 1");
            tells(y, 2, 0, 1, 129, 255, ~126L, 129);
            tells(y, 3, 0, 1, 258, 510, ~252L, 258);
            tells(y, 4, 0, 1, 64, 127, ~63L, 64);
            tells(y, 5, 0, 1, 32, 63, ~31L, 32);
        });
        test("BITS of shifts with sign: only if h is below 2^63", x -> {
            FilterForge y = verified(0, "7a a 0 -8 0", "79 0 a -8 0", "57 0 0 0 -2", "bf 6 0 0 0", "c7 6 0 0 1");
            tells(y, 4, 6, 1, 0, -2, 1, 0);
            tells(y, 5, 6, 1, 0, MOST, 0, 0);
        });
        test("BITS of -: those of y, too, that are not KNOWN", x -> {
            FilterForge y = verified(0, "30 0 0 0 0", "57 0 0 0 16", "b7 6 0 0 0", "b7 7 0 0 48", "1f 6 0 0 0", "1f 7 0 0 0");
            tells(y, 6, 6, 1, 0, MOST, 15, 0);
            tells(y, 6, 7, 1, 32, 48, ~16L, 32);
        });
        test("BITS of and, or, xor: KNOWN to be 1 in both, in one", x -> {
            FilterForge y = verified(0, "30 0 0 0 0", "47 0 0 0 129", "bf 6 0 0 0", "bf 7 0 0 0", "a7 6 0 0 1", "57 7 0 0 3",
                "47 0 0 0 3");
            tells(y, 4, 0, 1, 129, 255, ~126L, 129);
            tells(y, 7, 6, 1, 0, 255, ~126L, 128);
            tells(y, 7, 7, 1, 0, 3, ~2L, 1);
            tells(y, 7, 0, 1, 129, 255, ~124L, 131);
        });
        test("BITS of shifts to the right without sign: the highest one KNOWN to be 1", x -> {
            FilterForge y = verified(0, "30 0 0 0 0", "b7 7 0 0 1", "67 7 0 0 63", "4f 0 7 0 0", "bf 6 0 0 0", "77 0 0 0 1",
                "c7 6 0 0 1");
            tells(y, 5, 6, 1, HALF, MOST, ~255L, HALF);
            tells(y, 7, 0, 1, HALF >>> 1, Long.MAX_VALUE, ~127L, HALF >>> 1);
            tells(y, 7, 6, 1, 0, MOST, 0, 0);
        });
        test("BITS of others: none, not those that were KNOWN to be 1, either", x -> {
            String[] rows = {"27 0 0 0 1", "37 0 0 0 1", "97 0 0 0 1000", "2f 0 7 0 0", "6f 0 6 0 0", "7f 0 6 0 0", "cf 0 6 0 0",
                "87 0 0 0 0"};
            for (String row : rows) {
                FilterForge y = verified(0, "bf 6 1 0 0", "bf 7 1 0 0", "30 0 0 0 0", "47 0 0 0 129", row);
                tells(y, 4, 0, 1, 129, 255, ~126L, 129);
                due("BITS behind " + row, y.known(5, 0, 3), 0);
                due("ones behind " + row, y.known(5, 0, 4), 0);
            }
        });
        test("what is loaded or READ keeps no BITS of what D was", x -> {
            FilterForge y = verified(0, "7a a 0 -8 0", "b7 0 0 0 -1", "b7 6 0 0 -1", "b7 7 0 0 -1", "30 0 0 0 0", "79 6 a -8 0",
                "71 7 a -8 0");
            tells(y, 5, 0, 1, 0, 255, ~255L, 0);
            tells(y, 6, 6, 1, 0, MOST, 0, 0);
            tells(y, 7, 7, 1, 0, 255, ~255L, 0);
        });
        test("BITS of others: none", x -> {
            masked(0xf0, "27 0 0 0 1", 0, 240, 0, 0);
            masked(0xf0, "37 0 0 0 1", 0, 240, 0, 0);
            masked(0xf0, "97 0 0 0 16", 0, 15, 0, 0);
            masked(0xf0, "87 0 0 0 0", 0, MOST, 0, 0);
        });
    }

    private static void narrow() {
        test("CUT: HIGH 2^32 - 1 stays, if HIGH is 2^32 or more, LOW is 0, HIGH 2^32 - 1", x -> {
            op32(0, 5, LOW32, 0, 0, 5, LOW32, ~LOW32, 0);
            op32(0, 5, TOP, 0, 0, 0, LOW32, ~LOW32, 0);
            op32(0, TOP + 5, TOP + 6, 0, 0, 0, LOW32, ~LOW32, 0);
            op32(11, 7, 7, 5, LOW32, 5, LOW32, ~LOW32, 0);
            op32(11, 7, 7, 5, TOP, 0, LOW32, ~LOW32, 0);
            op32(5, 5, 6, 9, TOP, 0, 6, ~LOW32, 0);
        });
        test("CUT of y, too", x -> {
            op32(0, 1, 2, 5, TOP, 0, LOW32, ~LOW32, 0);
            op32(4, 1, 2, 5, TOP, 1, LOW32, ~LOW32, 0);
            op32(9, 1, 200, 5, TOP + 5, 0, 200, ~LOW32, 0);
        });
        test("CUT: the higher 32 BITS are 0, and if all are KNOWN, LOW and HIGH are that", x -> {
            op32(0, TOP + 5, TOP + 5, 0, 0, 5, 5, -1, 5);
            op32(0, 1, 2, TOP, TOP, 1, 2, ~LOW32, 0);
            op32(3, 10, 20, TOP + 2, TOP + 2, 5, 10, ~LOW32, 0);
            op32(3, 10, 20, TOP, TOP, 0, 20, ~LOW32, 0);
            op32(9, 10, 20, TOP + 3, TOP + 3, 0, 2, ~LOW32, 0);
        });
        test("what comes is CUT likewise: +", x -> {
            op32(0, 5, LOW32 - 1, 1, 1, 6, LOW32, ~LOW32, 0);
            op32(0, 5, LOW32, 1, 1, 0, LOW32, ~LOW32, 0);
        });
        test("what comes is CUT likewise: -", x -> {
            op32(1, 5, 9, 1, 5, 0, 8, ~LOW32, 0);
            op32(1, 5, 9, 1, 6, 0, LOW32, ~LOW32, 0);
        });
        test("what comes is CUT likewise: *", x -> {
            op32(2, 1, 65536, 1, 65535, 1, 65536L * 65535, ~LOW32, 0);
            op32(2, 1, 65536, 1, 65536, 0, LOW32, ~LOW32, 0);
            op32(2, 1, LOW32, 1, LOW32, 0, LOW32, ~LOW32, 0);
        });
        test("what comes is CUT likewise: shift to the left, k the lowest 5 bits", x -> {
            op32(6, 1, 2, 33, 33, 2, 4, ~LOW32 | 1, 0);
            op32(6, 1, 2, 30, 30, 1L << 30, 1L << 31, ~LOW32 | (1L << 30) - 1, 0);
            op32(6, 1, 2, 31, 31, 0, LOW32, ~LOW32 | (1L << 31) - 1, 0);
            op32(6, 1, 2, 1, 2, 0, LOW32, ~LOW32, 0);
            op32(6, 1, LOW32, 32, 32, 1, LOW32, ~LOW32, 0);
        });
        test("of 32 bits: to the right, k the lowest 5 bits", x -> {
            op32(7, 8, 100, 2, 2, 2, 25, ~(LOW32 >> 2), 0);
            op32(7, 8, 100, 34, 34, 2, 25, ~(LOW32 >> 2), 0);
            op32(7, 8, 100, 32, 32, 8, 100, ~LOW32, 0);
            op32(7, 8, TOP, 4, 4, 0, LOW32 >> 4, ~(LOW32 >> 4), 0);
            op32(7, 8, 100, 1, 2, 0, 100, ~LOW32, 0);
        });
        test("of 32 bits with sign: 2^31 in place of 2^63", x -> {
            FilterForge y = behind(1, 0x7fffffff, 1, 1, "cc 6 7 0 0");
            due("LOW", y.known(y.count(1) - 2, 6, 1), 0);
            due("HIGH", y.known(y.count(1) - 2, 6, 2), 0x3fffffff);
            op32(12, 1, 0x80000000L, 1, 1, 0, LOW32, ~LOW32, 0);
            op32(12, 1, 0x80000000L, 0, 0, 0, LOW32, ~LOW32, 0);
            op32(12, 8, 100, 1, 2, 0, 100, ~LOW32, 0);
            op32(12, 8, 0x80000000L, 1, 2, 0, LOW32, ~LOW32, 0);
        });
        test("of 32 bits: xor, or, and", x -> {
            op32(10, 10, 20, 3, 5, 0, 31, ~LOW32, 0);
            op32(4, 10, 20, 3, 5, 10, 31, ~LOW32, 0);
            op32(5, 10, 20, 3, 5, 0, 5, ~LOW32, 0);
        });
        test("of 32 bits: y stays as it was", x -> {
            FilterForge y = behind(1, 2, 5, TOP, "c 6 7 0 0");
            tells(y, y.count(1) - 2, 7, 1, 5, TOP, 0, 0);
        });
        test("of 32 bits by K: CUT of K", x -> {
            FilterForge y = behind(1, 2, 5, 5, "54 6 0 0 -1");
            tells(y, y.count(1) - 2, 6, 1, 0, 2, ~LOW32, 0);
            y = behind(1, 2, 5, 5, "4 6 0 0 -1");
            tells(y, y.count(1) - 2, 6, 1, 0, LOW32, ~LOW32, 0);
            y = behind(1, 2, 5, 5, "7 6 0 0 -1");
            tells(y, y.count(1) - 2, 6, 1, 0, MOST, 0, 0);
        });
    }

    /** 10 to 20 of r6, op k: what is known on the way that goes, and on the other one; -1, -1 if it is none. */
    private static void ways(int op, long k, long yesLow, long yesHigh, long noLow, long noHigh) {
        for (int byK = 0; byK < 2; byK++) {
            List<String> rows = new ArrayList<>();
            rows.add("b7 0 0 0 0");
            range(rows, 6, 10, 20);
            constant(rows, 7, k);
            rows.add(Integer.toHexString(op << 4 | (byK == 1 ? 5 : 13)) + " 6 " + (byK == 1 ? "0 1 " + k : "7 1 0"));
            int at = rows.size();
            rows.add(END);
            rows.add(END);
            FilterForge x = loaded(rows.toArray(new String[0]));
            due("verify", x.verify(), 0);
            way(x, at + 1, "yes " + op + " " + k, yesLow, yesHigh);
            way(x, at, "no " + op + " " + k, noLow, noHigh);
            if (yesLow >= 0) {
                exact(x, at + 1, 7, k);
            }
        }
    }

    private static void way(FilterForge x, int i, String name, long low, long high) {
        due(name, x.known(i, 6, 0), low < 0 ? -1 : 1);
        due(name + " LOW", x.known(i, 6, 1), low < 0 ? 0 : low);
        due(name + " HIGH", x.known(i, 6, 2), low < 0 ? 0 : high);
        due(name + " BITS", x.known(i, 6, 3), low >= 0 && low == high ? -1 : 0);
        due(name + " ones", x.known(i, 6, 4), low >= 0 && low == high ? low : 0);
    }

    private static void goings() {
        test("= k: LOW and HIGH are k, and all BITS; else LOW 1 more, if it is k, HIGH 1 less, if it is k", x -> {
            ways(1, 10, 10, 10, 11, 20);
            ways(1, 11, 11, 11, 10, 20);
            ways(1, 19, 19, 19, 10, 20);
            ways(1, 20, 20, 20, 10, 19);
        });
        test("= k: a way on which k is not within LOW and HIGH is none", x -> {
            ways(1, 9, -1, -1, 10, 20);
            ways(1, 21, -1, -1, 10, 20);
            ways(1, 0, -1, -1, 10, 20);
            ways(1, -1, -1, -1, 10, 20);
        });
        test("not = k", x -> {
            ways(5, 10, 11, 20, 10, 10);
            ways(5, 15, 10, 20, 15, 15);
            ways(5, 20, 10, 19, 20, 20);
            ways(5, 9, 10, 20, -1, -1);
            ways(5, 21, 10, 20, -1, -1);
        });
        test("> k: LOW not below k + 1; else HIGH not above k", x -> {
            ways(2, 8, 10, 20, -1, -1);
            ways(2, 9, 10, 20, -1, -1);
            ways(2, 10, 11, 20, 10, 10);
            ways(2, 15, 16, 20, 10, 15);
            ways(2, 19, 20, 20, 10, 19);
            ways(2, 20, -1, -1, 10, 20);
            ways(2, 21, -1, -1, 10, 20);
            ways(2, -1, -1, -1, 10, 20);
            ways(2, 0, 10, 20, -1, -1);
        });
        test(">= k: LOW not below k; else HIGH not above k - 1", x -> {
            ways(3, 0, 10, 20, -1, -1);
            ways(3, 10, 10, 20, -1, -1);
            ways(3, 11, 11, 20, 10, 10);
            ways(3, 15, 15, 20, 10, 14);
            ways(3, 20, 20, 20, 10, 19);
            ways(3, 21, -1, -1, 10, 20);
            ways(3, -1, -1, -1, 10, 20);
        });
        test("< k: HIGH not above k - 1; else LOW not below k", x -> {
            ways(10, 0, -1, -1, 10, 20);
            ways(10, 10, -1, -1, 10, 20);
            ways(10, 11, 10, 10, 11, 20);
            ways(10, 15, 10, 14, 15, 20);
            ways(10, 20, 10, 19, 20, 20);
            ways(10, 21, 10, 20, -1, -1);
            ways(10, -1, 10, 20, -1, -1);
        });
        test("<= k: HIGH not above k; else LOW not below k + 1", x -> {
            ways(11, 0, -1, -1, 10, 20);
            ways(11, 9, -1, -1, 10, 20);
            ways(11, 10, 10, 10, 11, 20);
            ways(11, 15, 10, 15, 16, 20);
            ways(11, 19, 10, 19, 20, 20);
            ways(11, 20, 10, 20, -1, -1);
            ways(11, -1, 10, 20, -1, -1);
        });
        test("by op 1 to 3, 5, 10, 11 alone: not with sign, not by and", x -> {
            for (int op : new int[] {4, 6, 7, 12, 13}) {
                ways(op, 15, 10, 20, 10, 20);
                ways(op, 0, 10, 20, 10, 20);
            }
        });
        test("all BITS of = k, also of those that were not KNOWN, or were others", x -> {
            FilterForge y = verified(0, "30 0 0 0 0", "57 0 0 0 240", "15 0 0 1 16", "b7 6 0 0 0", "bf 6 0 0 0");
            tells(y, 3, 0, 1, 0, 240, ~0xf0L, 0);
            y = verifiedAlone(0, "30 0 0 0 0", "57 0 0 0 240", "15 0 0 1 7", END, END);
            exact(y, 4, 0, 7);
        });
        test("BITS stay as they were, but for LOW being HIGH", x -> {
            FilterForge y = verifiedAlone(0, "30 0 0 0 0", "57 0 0 0 240", "25 0 0 1 100", END, END);
            tells(y, 4, 0, 1, 101, 240, ~0xf0L, 0);
            tells(y, 3, 0, 1, 0, 100, ~0xf0L, 0);
            y = verifiedAlone(0, "30 0 0 0 0", "57 0 0 0 240", "35 0 0 1 1", END, END);
            exact(y, 3, 0, 0);
        });
        test("not =: what is left of two is one", x -> {
            FilterForge y = verifiedAlone(0, "30 0 0 0 0", "57 0 0 0 1", "55 0 0 1 0", END, END);
            exact(y, 4, 0, 1);
            exact(y, 3, 0, 0);
        });
        test("not =: of LOW and HIGH both k there is no such way", x -> {
            FilterForge y = verifiedAlone(0, "b7 0 0 0 7", "55 0 0 1 7", END, "bf 6 2 0 0", END);
            nothing(y, 3, 0);
            exact(y, 2, 0, 7);
            y = verifiedAlone(0, "b7 0 0 0 7", "15 0 0 1 7", "bf 6 2 0 0", END, END);
            nothing(y, 2, 0);
        });
        test("of 32 bits nothing is known by it", x -> {
            for (int op : new int[] {1, 2, 3, 5, 10, 11}) {
                FilterForge y = verifiedAlone(0, "30 0 0 0 0", Integer.toHexString(op << 4 | 6) + " 0 0 1 7", END, END);
                tells(y, 2, 0, 1, 0, 255, ~255L, 0);
                tells(y, 3, 0, 1, 0, 255, ~255L, 0);
                y = verifiedAlone(0, "b7 0 0 0 7", Integer.toHexString(op << 4 | 6) + " 0 0 1 9", END, END);
                exact(y, 2, 0, 7);
                exact(y, 3, 0, 7);
            }
        });
        test("by a y whose LOW is not HIGH nothing is known", x -> {
            for (int op : new int[] {1, 2, 3, 5, 10, 11}) {
                List<String> rows = new ArrayList<>();
                rows.add("b7 0 0 0 0");
                range(rows, 6, 10, 20);
                range(rows, 7, 30, 31);
                rows.add(Integer.toHexString(op << 4 | 13) + " 6 7 1 0");
                int at = rows.size();
                rows.add(END);
                rows.add(END);
                FilterForge y = verifiedAlone(0, rows.toArray(new String[0]));
                way(y, at, "no", 10, 20);
                way(y, at + 1, "yes", 10, 20);
            }
        });
        test("Nothing is known of y by that", x -> {
            List<String> rows = new ArrayList<>();
            rows.add("b7 0 0 0 7");
            range(rows, 6, 10, 20);
            rows.add("1d 0 6 1 0");
            int at = rows.size();
            rows.add(END);
            rows.add(END);
            FilterForge y = verifiedAlone(0, rows.toArray(new String[0]));
            way(y, at, "no", 10, 20);
            way(y, at + 1, "yes", 10, 20);
            exact(y, at, 0, 7);
        });
        test("D and y the same REGISTER, with LOW HIGH and without", x -> {
            FilterForge y = verifiedAlone(0, "b7 0 0 0 7", "1d 0 0 1 0", "bf 6 2 0 0", END);
            nothing(y, 2, 0);
            y = verifiedAlone(0, "b7 0 0 0 7", "2d 0 0 1 0", END, "bf 6 2 0 0", END);
            nothing(y, 3, 0);
            y = verifiedAlone(0, "30 0 0 0 0", "1d 0 0 1 0", END, END);
            tells(y, 2, 0, 1, 0, 255, ~255L, 0);
        });
        test("by OFF 0 both ways are JOINED; one that is none is not", x -> {
            FilterForge y = verifiedAlone(0, "30 0 0 0 0", "15 0 0 0 0", END);
            tells(y, 2, 0, 1, 0, 255, ~255L, 0);
            y = verifiedAlone(0, "30 0 0 0 0", "25 0 0 0 254", END);
            tells(y, 2, 0, 1, 0, 255, ~255L, 0);
            y = verifiedAlone(0, "30 0 0 0 0", "25 0 0 1 9", END, "15 0 0 0 9", END);
            tells(y, 4, 0, 1, 10, 255, ~255L, 0);
        });
        test("what both ways know of the other REGISTERS is the same", x -> {
            FilterForge y = verifiedAlone(0, "b7 6 0 0 7", "bf 7 a 0 0", "72 a 0 -1 0", "30 0 0 0 0", "15 0 0 1 9", END, END);
            for (int i = 5; i <= 6; i++) {
                exact(y, i, 6, 7);
                tells(y, i, 7, 2, 0, 0, -1, 0);
                due("SET", y.known(i, 11, 63), 1);
            }
        });
        test("at 0 and at 2^64 - 1: ways that are none", x -> {
            FilterForge y = verifiedAlone(0, "7a a 0 -8 0", "79 0 a -8 0", "25 0 0 1 -1", END, "bf 6 2 0 0", END);
            nothing(y, 4, 0);
            tells(y, 3, 0, 1, 0, MOST, 0, 0);
            y = verifiedAlone(0, "7a a 0 -8 0", "79 0 a -8 0", "a5 0 0 1 0", END, "bf 6 2 0 0", END);
            nothing(y, 4, 0);
            y = verifiedAlone(0, "7a a 0 -8 0", "79 0 a -8 0", "35 0 0 1 0", "bf 6 2 0 0", END);
            nothing(y, 3, 0);
            y = verifiedAlone(0, "7a a 0 -8 0", "79 0 a -8 0", "b5 0 0 1 -1", "bf 6 2 0 0", END);
            nothing(y, 3, 0);
            y = verifiedAlone(0, "7a a 0 -8 0", "79 0 a -8 0", "15 0 0 1 -1", END, END);
            tells(y, 3, 0, 1, 0, -2, 0, 0);
            y = verifiedAlone(0, "7a a 0 -8 0", "79 0 a -8 0", "15 0 0 1 0", END, END);
            tells(y, 3, 0, 1, 1, MOST, 0, 0);
        });
    }

    private static void accepted() {
        test("ACCEPTED: no TRAP, whatever the packet, and no more STEPS than INSTRUCTIONS", x -> {
            packet(x);
            packetOf(x, 256);
            packetOf(x, 60);
            String[] texts = {"port 1", "ip[len] / tcp[len - 40] = 1", "1 = 1 + 1 * { 1 + 1 * { 1 + 1 * 1 } } - 3",
                "ether[255] = 255 or not host 1.2.3.4"};
            for (String text : texts) {
                int length = compile(x, text);
                due("verify of " + text, x.verify(), 0);
                for (int p = 0; p < 3; p++) {
                    x.run(p);
                    due("trap of " + text, x.ended(0), 0);
                    due("steps of " + text, x.ended(1) <= length ? 1 : 0, 1);
                }
            }
        });
        test("not ACCEPTED, it may run all the same", x -> {
            packetOf(x, 3);
            load(x, END);
            due("verify()", x.verify(), 4);
            due("run(0)", x.run(0), 0);
            ended(x, 0, 1, 0);
        });
        test("7 and 32 bits: what 7 would not do, a mask does", x -> {
            verified(16 * 3 + 7, "30 0 0 0 0", "bf 6 a 0 0", "f 6 0 0 0", "72 6 0 -64 0");
            verified(0, "30 0 0 0 0", "bf 6 a 0 0", "54 0 0 0 63", "f 6 0 0 0", "72 6 0 -64 0");
            verified(0, "30 0 0 0 0", "bf 6 a 0 0", "25 0 0 2 63", "f 6 0 0 0", "72 6 0 -64 0");
            verified(16 * 4 + 7, "30 0 0 0 0", "bf 6 a 0 0", "25 0 0 2 64", "f 6 0 0 0", "72 6 0 -64 0");
        });
    }

    public static void main(String[] args) {
        verifying();
        beginning();
        coming();
        uses();
        places();
        comings();
        bits();
        narrow();
        goings();
        accepted();
        finish("EdgeKnownTest");
    }
}
