/** load, instruction, verify, known, run and what it leaves (promises 7 to 11, 16 to 18). */
public final class ProgramTest {
    private static int wrong = 0;

    private static void due(String call, long got, long want) {
        if (got != want) {
            wrong++;
            System.out.println(call + " answered " + got + ", due is " + want);
        }
    }

    /** Rows: CODE (16), D, S (16), OFF, K. */
    private static FilterForge loaded(String... rows) {
        FilterForge x = new FilterForge();
        packet(x, 1, 2, 3, 4, 5);
        load(x, rows);
        return x;
    }

    private static void load(FilterForge x, String... rows) {
        int[] cells = new int[8 * rows.length];
        for (int i = 0; i < rows.length; i++) {
            String[] p = rows[i].split(" ");
            long code = Long.parseLong(p[0], 16) | Long.parseLong(p[1], 16) << 8 | Long.parseLong(p[2], 16) << 12
                | (Long.parseLong(p[3]) & 0xFFFF) << 16 | Long.parseLong(p[4]) << 32;
            for (int k = 0; k < 8; k++) {
                cells[8 * i + k] = (int) (code >>> 8 * k & 255);
            }
        }
        feed(x, cells);
        due("load", x.load(), rows.length);
        due("tape behind load", x.count(3), 0);
        due("count(1)", x.count(1), rows.length);
    }

    private static void packet(FilterForge x, int... cells) {
        feed(x, cells);
        x.packet();
    }

    private static void feed(FilterForge x, int[] cells) {
        for (int i = 0; i < cells.length; i += 20) {
            int[] five = new int[5];
            for (int k = 0; k < 20; k++) {
                five[k / 4] = five[k / 4] << 8 | (i + k < cells.length ? cells[i + k] & 255 : 0);
            }
            x.feed(five[0], five[1], five[2], five[3], five[4]);
        }
        x.end(cells.length);
    }

    private static void ran(FilterForge x, String name, long answer, int trap, int steps, int place) {
        due(name + ": run", x.run(0), answer);
        due(name + ": trap", x.ended(0), trap);
        due(name + ": steps", x.ended(1), steps);
        due(name + ": place", x.ended(2), place);
        due(name + ": ended(3)", x.ended(3), 0);
        due(name + ": ended(-1)", x.ended(-1), 0);
    }

    private static final String END = "95 0 0 0 0";

    private static void loading() {
        FilterForge x = loaded("b7 0 0 0 7", END);
        due("instruction 0", x.instruction(0), 0x7000000b7L);
        due("instruction 1", x.instruction(1), 149);
        due("instruction 2", x.instruction(2), 0);
        due("instruction -1", x.instruction(-1), 0);
        due("load of nothing", x.load(), -1);
        x.feed(1, 2, 3, 4, 5);
        due("load of 20", x.load(), -1);
        due("tape behind it", x.count(3), 0);
        due("it stays", x.count(1), 2);
        ran(x, "it stays", 7, 0, 2, 1);
        due("run of no packet", x.run(1), 0);
        due("run of -1", x.run(-1), 0);
        due("nothing is run", x.ended(1), 2);
        due("the register stays", x.register(0), 7);
        due("register 1", x.register(1), 5);
        due("register 10", x.register(10), 131136);
        due("register 11", x.register(11), 0);
        due("register -1", x.register(-1), 0);
        // A number with its sign in each part.
        load(x, "7b a 0 -8 0", "a7 a a 0 -2");
        due("instruction with signs", x.instruction(0), 0xfff80a7bL);
        due("instruction with S", x.instruction(1), 0xfffffffe0000aaa7L);
        for (int i = 0; i < 100; i++) {
            x.feed(i, 0, 0, 0, 0);
        }
        due("longest", x.load(), 250);
    }

    private static void traps() {
        ran(loaded("b7 0 0 0 7"), "no end", 0, 2, 0, 0);
        FilterForge x = loaded("b7 0 0 0 7");
        x.run(0);
        due("it is done all the same", x.register(0), 7);
        ran(loaded("b7 0 0 0 7", "5 0 0 -3 0", END), "goes below 0", 0, 2, 1, 1);
        ran(loaded("b7 0 0 0 7", "5 0 0 1 0", END), "goes behind", 0, 2, 1, 1);
        ran(loaded("5 0 0 0 0", END), "goes to the next", 0, 0, 2, 1);
        ran(loaded("b7 0 0 0 7", "15 0 0 1 8", END), "does not go behind", 7, 0, 3, 2);
        ran(loaded("7 0 0 0 1", "5 0 0 -2 0"), "for ever", 0, 9, 10000, 0);
        x = loaded("7 0 0 0 1", "5 0 0 -2 0");
        x.run(0);
        due("5000 times", x.register(0), 5000);
        String[] missing = {"0 0 0 0 0", "d7 0 0 0 0", "e7 0 0 0 0", "f4 0 0 0 0", "8f 0 0 0 0", "8c 0 0 0 0", "6 0 0 0 0",
            "d 0 0 0 0", "e 0 0 0 0", "96 0 0 0 0", "9d 0 0 0 0", "85 0 0 0 0", "8d 0 0 0 0", "e5 0 0 0 0", "f6 0 0 0 0",
            "61 b 0 0 0", "61 0 b 0 0", "7 f 0 0 0", "61 0 0 0 1", "63 a 0 -8 1", "62 a 1 -8 0", "7 0 0 1 0", "7 0 1 0 0",
            "f 0 0 0 1", "87 0 0 0 1", "87 0 1 0 0", "5 1 0 0 0", "5 0 1 0 0", "5 0 0 0 1", "15 0 1 0 0", "1d 0 0 0 1",
            "95 1 0 0 0", "95 0 1 0 0", "95 0 0 1 0", "95 0 0 0 1", "20 1 0 0 0", "20 0 1 0 0", "20 0 0 1 0", "40 1 0 0 0",
            "40 0 0 1 0", "38 0 0 0 0", "58 0 0 0 0", "60 0 0 0 0", "69 0 a 0 1", "1 0 0 0 0", "a1 0 0 0 0", "db 0 0 0 0",
            "18 0 0 0 0", "c3 a 0 -8 0", "7a a 1 -8 0", "79 0 a -8 1"};
        for (String row : missing) {
            x = loaded("b7 1 0 0 1", row, END);
            ran(x, "no such one: " + row, 0, 1, 1, 1);
            due("verify of " + row, x.verify(), 17);
            due("known of " + row, x.known(0, 1, 0), -1);
        }
        ran(loaded("95 0 0 0 0", "0 0 0 0 0"), "one that is not come to", 0, 0, 1, 0);
    }

    private static void memory() {
        FilterForge x = loaded("b7 2 0 0 -2", "7b a 2 -64 0", "62 a 0 -4 -3", "6a a 0 -6 258", "72 a 0 -7 259",
            "79 0 a -64 0", "61 3 a -4 0", "69 4 a -6 0", "71 5 a -1 0", END);
        ran(x, "memory", -2, 0, 10, 9);
        due("4 bytes", x.register(3), 0xfffffffdL);
        due("2 bytes", x.register(4), 258);
        due("1 byte", x.register(5), 255);
        int[] cells = {0xfe, 255, 255, 255, 255, 255, 255, 255};
        for (int i = 0; i < 8; i++) {
            due("stack " + i, x.stack(i), cells[i]);
        }
        due("stack 57", x.stack(57), 3);
        due("stack 58", x.stack(58), 2);
        due("stack 59", x.stack(59), 1);
        due("stack 60", x.stack(60), 0xfd);
        due("stack 63", x.stack(63), 255);
        due("stack -1", x.stack(-1), -1);
        due("stack 64", x.stack(64), -1);
        ran(loaded("72 a 0 0 1", END), "above", 0, 7, 0, 0);
        ran(loaded("72 a 0 -65 1", END), "below", 0, 7, 0, 0);
        x = loaded("b7 2 0 0 5", "7b a 2 -7 0", END);
        ran(x, "partly", 0, 7, 1, 1);
        due("it does nothing", x.stack(63), 0);
        ran(loaded("b7 2 0 0 5", "61 2 a -3 0", END), "partly loaded", 0, 7, 1, 1);
        ran(loaded("71 0 1 0 0", END), "a place that is none", 0, 7, 0, 0);
        ran(loaded("b7 2 0 0 -1", "7a a 0 -9 -1", "79 0 a -9 0", END), "at no 8th place", -1, 0, 4, 3);
        load(x, "95 0 0 0 0");
        x.run(0);
        due("the stack is new each time", x.stack(60), 0);
    }

    private static void reads() {
        ran(loaded("20 0 0 0 1", END), "READ(1, 4)", 0x02030405, 0, 2, 1);
        ran(loaded("b7 0 0 0 9", "20 0 0 0 2", END), "READ(2, 4)", 0, 0, 2, 1);
        ran(loaded("28 0 0 0 3", END), "READ(3, 2)", 0x0405, 0, 2, 1);
        ran(loaded("30 0 0 0 4", END), "READ(4, 1)", 5, 0, 2, 1);
        ran(loaded("30 0 0 0 5", END), "READ(5, 1)", 0, 0, 1, 0);
        ran(loaded("30 0 0 0 -1", END), "READ(-1, 1)", 0, 0, 1, 0);
        ran(loaded("20 0 0 0 -2", END), "READ(-2, 4)", 0, 0, 1, 0);
        ran(loaded("50 0 1 0 -1", END), "by S", 5, 0, 2, 1);
        ran(loaded("18 2 0 0 0", "40 0 0 0 0", END), "no op", 0, 1, 0, 0);
        ran(loaded("b7 2 0 0 1", "67 2 0 0 32", "7 2 0 0 3", "50 0 2 0 1", END), "the lowest 32 bits of S", 5, 0, 5, 4);
        ran(loaded("b7 2 0 0 -4", "48 0 2 0 5", END), "S + K, cut", 0x0203, 0, 3, 2);
    }

    private static void offences() {
        verified("b7 0 0 0 0", END, 0, END);
        verified("b7 0 0 0 0", "5 0 0 0 0", 0, END);
        verified("b7 0 0 0 0", "5 0 0 1 0", 16 + 2, END);
        verified("b7 0 0 0 0", "5 0 0 -1 0", 16 + 2, END);
        verified("b7 0 0 0 0", "15 0 0 -2 0", 16 + 2, END);
        verified("b7 0 0 0 0", "16 0 0 1 0", 16 + 2, END);
        verified("b7 0 0 0 0", "b7 0 0 0 0", 32 + 2, "b7 0 0 0 0");
        verified("b7 0 0 0 0", "b7 0 0 0 0", 32 + 2, "5 0 0 -1 0");
        verified("95 0 0 0 0", "95 0 0 0 0", 4, END);
        verified("7 0 0 0 0", "95 0 0 0 0", 4, END);
        verified("7 1 0 0 0", "bf 2 1 0 0", 32 + 4, END);
        verified("f 1 0 0 0", "bf 2 1 0 0", 4, END);
        verified("87 0 0 0 0", "bf 2 1 0 0", 4, END);
        verified("bf 0 2 0 0", "bf 2 1 0 0", 4, END);
        verified("b7 a 0 0 0", "bf 2 1 0 0", 5, END);
        verified("7 a 0 0 0", "bf 2 1 0 0", 5, END);
        verified("f a 0 0 0", "bf 2 1 0 0", 4, END);
        verified("7b a 1 -8 0", "79 a a -8 0", 16 + 5, END);
        verified("7b 0 1 -8 0", "79 a a -8 0", 4, END);
        verified("7b a 0 -8 0", "79 a a -8 0", 4, END);
        verified("7b a a -8 0", "79 a a -8 0", 6, END);
        verified("bf 0 a 0 0", "b7 1 0 0 0", 32 + 6, END);
        verified("bf 0 a 0 0", "7 0 0 0 1", 32 + 6, END);
        verified("bf 0 a 0 0", "17 0 0 0 1", 32 + 6, END);
        verified("bf 0 a 0 0", "4 0 0 0 1", 16 + 6, END);
        verified("bf 0 a 0 0", "27 0 0 0 1", 16 + 6, END);
        verified("bc 0 a 0 0", "27 0 0 0 1", 6, END);
        verified("bf 0 a 0 0", "f 0 a 0 0", 16 + 6, END);
        verified("bf 0 a 0 0", "1f 0 a 0 0", 16 + 6, END);
        verified("b7 0 0 0 0", "f 0 a 0 0", 16 + 6, END);
        verified("b7 0 0 0 0", "1f 0 a 0 0", 16 + 6, END);
        verified("bf 0 a 0 0", "87 0 0 0 0", 16 + 6, END);
        verified("bf 0 a 0 0", "b7 0 0 0 0", 0, END);
        verified("bf 0 a 0 0", "15 0 0 0 0", 16 + 6, END);
        verified("b7 0 0 0 0", "1d 0 a 0 0", 16 + 6, END);
        verified("b7 0 0 0 0", "1d 0 2 0 0", 16 + 4, END);
        verified("b7 0 0 0 0", "15 2 0 0 0", 16 + 4, END);
        verified("40 0 a 0 0", "b7 0 0 0 0", 6, END);
        verified("40 0 2 0 0", "b7 0 0 0 0", 4, END);
        verified("40 0 1 0 0", "bf 0 1 0 0", 16 + 4, END);
        verified("30 0 0 0 0", "bf 6 5 0 0", 16 + 4, END);
        verified("71 0 1 0 0", "b7 0 0 0 0", 7, END);
        verified("72 1 0 0 0", "b7 0 0 0 0", 7, END);
        verified("72 a 0 0 0", "b7 0 0 0 0", 7, END);
        verified("72 a 0 -1 0", "71 0 a -1 0", 0, END);
        verified("72 a 0 -64 0", "71 0 a -64 0", 0, END);
        verified("72 a 0 -65 0", "71 0 a -64 0", 7, END);
        verified("72 a 0 -1 0", "71 0 a -2 0", 16 + 7, END);
        verified("7a a 0 -8 0", "79 0 a -8 0", 0, END);
        verified("7a a 0 -7 0", "79 0 a -8 0", 7, END);
        verified("7a a 0 -12 0", "79 0 a -8 0", 7, END);
        verified("62 a 0 -12 0", "61 0 a -12 0", 0, END);
        verified("62 a 0 -12 0", "79 0 a -16 0", 16 + 7, END);
        verified("6a a 0 -13 0", "79 0 a -16 0", 7, END);
        verified("7a a 0 -8 0", "69 0 a -1 0", 16 + 7, END);
        verified("0 0 0 0 0", "7 0 0 1 0", 1, "b7 0 0 0 0");
        // What is not come to has no OFFENCE but 1 and 2.
        FilterForge x = loaded("b7 0 0 0 0", "5 0 0 1 0", "7 9 0 0 1", END);
        due("passed over", x.verify(), 0);
        due("none comes", x.known(2, 0, 0), -1);
        due("none comes", x.known(2, 11, 0), -1);
        due("none comes", x.known(2, 0, 1), 0);
    }

    private static void verified(String first, String second, int want, String... more) {
        String[] rows = new String[2 + more.length];
        rows[0] = first;
        rows[1] = second;
        System.arraycopy(more, 0, rows, 2, more.length);
        FilterForge x = loaded(rows);
        due("verify of " + String.join(", ", rows), x.verify(), want);
        due("again", x.verify(), want);
        due("translate", x.translate() > 0 ? 0 : -1, want == 0 ? 0 : -1);
    }

    private static void tells(FilterForge x, int i, int r, long kind, long low, long high, long bits, long ones) {
        String name = "known(" + i + ", " + r + ", ";
        due(name + "0)", x.known(i, r, 0), kind);
        due(name + "1)", x.known(i, r, 1), low);
        due(name + "2)", x.known(i, r, 2), high);
        due(name + "3)", x.known(i, r, 3), bits);
        due(name + "4)", x.known(i, r, 4), ones);
        due(name + "5)", x.known(i, r, 5), 0);
        due(name + "-1)", x.known(i, r, -1), 0);
    }

    private static void knowing() {
        FilterForge x = loaded("30 0 0 0 0", "bf 6 0 0 0", "57 6 0 0 24", "bf 7 a 0 0", "1f 7 6 0 0", "7a a 0 -8 0", "7b 7 0 -24 0",
            "25 0 0 1 9", "b7 0 0 0 4", "b4 8 0 0 -1", "cf 8 8 0 0", END);
        due("verify", x.verify(), 16 * 6 + 7);
        tells(x, 0, 1, 1, 0, 256, 0, 0);
        tells(x, 0, 10, 2, 0, 0, -1, 0);
        tells(x, 0, 0, 0, 0, 0, 0, 0);
        tells(x, 1, 1, 0, 0, 0, 0, 0);
        tells(x, 1, 0, 1, 0, 255, ~255L, 0);
        tells(x, 3, 6, 1, 0, 24, ~24L, 0);
        tells(x, 5, 7, 2, 0, -1, 7, 0);
        due("set ahead", x.known(5, 11, 56), 0);
        due("set behind", x.known(6, 11, 56), 1);
        due("set behind", x.known(6, 11, 63), 1);
        due("not set", x.known(6, 11, 55), 0);
        due("no such byte", x.known(6, 11, 64), 0);
        due("no such byte", x.known(6, 11, -1), 0);
        tells(x, 7, 0, -1, 0, 0, 0, 0);
        tells(x, 12, 0, -1, 0, 0, 0, 0);
        tells(x, -1, 0, -1, 0, 0, 0, 0);
        tells(x, 0, 12, -1, 0, 0, 0, 0);
        tells(x, 0, -1, -1, 0, 0, 0, 0);
        x = loaded("30 0 0 0 0", "b7 6 0 0 7", "25 0 0 2 9", "15 0 0 1 3", "b7 6 0 0 4", "b4 8 0 0 -1", "cf 8 8 0 0", END);
        due("verify", x.verify(), 0);
        tells(x, 3, 0, 1, 0, 9, ~255L, 0);
        tells(x, 4, 0, 1, 0, 9, ~255L, 0);
        tells(x, 4, 6, 1, 7, 7, -1, 7);
        tells(x, 5, 6, 1, 4, 7, ~3L, 4);
        tells(x, 5, 0, 1, 0, 255, ~255L, 0);
        tells(x, 6, 8, 1, 0xffffffffL, 0xffffffffL, -1, 0xffffffffL);
        tells(x, 7, 8, 1, 0, 0, -1, 0);
        load(x, "0 0 0 0 0");
        tells(x, 5, 6, 1, 4, 7, ~3L, 4);
        due("translate of it", x.translate(), -1);
        tells(x, 5, 6, 1, 4, 7, ~3L, 4);
        due("verify of it", x.verify(), 1);
        tells(x, 5, 6, -1, 0, 0, 0, 0);
    }

    private static void setBytes() {
        verified("b7 5 0 0 1", "30 0 0 0 0", 32 + 4, "bf 6 5 0 0", END);
        verified("b7 1 0 0 1", "30 0 0 0 0", 32 + 4, "bf 6 1 0 0", END);
        verified("b7 6 0 0 1", "30 0 0 0 0", 0, "bf 0 6 0 0", END);
        // Through a pointer to any of eight places: all that it may be must be SET.
        for (int left = 0; left <= 64; left++) {
            String[] rows = new String[64 + 7];
            for (int i = 0; i < 64; i++) {
                rows[i] = i == left ? "b7 0 0 0 0" : "72 a 0 " + (i - 64) + " 7";
            }
            rows[64] = "30 0 0 0 0";
            rows[65] = "57 0 0 0 56";
            rows[66] = "bf 7 a 0 0";
            rows[67] = "17 7 0 0 64";
            rows[68] = "f 7 0 0 0";
            rows[69] = "79 0 7 0 0";
            rows[70] = END;
            FilterForge x = loaded(rows);
            due("verify but for byte " + left, x.verify(), left < 64 ? 16 * 69 + 7 : 0);
            due("byte 0", x.known(69, 11, 0), left == 0 ? 0 : 1);
            due("byte 63", x.known(69, 11, 63), left == 63 ? 0 : 1);
            due("byte 64", x.known(69, 11, 64), 0);
            due("byte -1", x.known(69, 11, -1), 0);
        }
    }

    private static void ranges() {
        // 1 to 3 times a third of 2^64 - 1.
        FilterForge x = loaded("30 0 0 0 0", "57 0 0 0 3", "25 0 0 2 0", "b7 0 0 0 0", END, "b7 7 0 0 -1", "37 7 0 0 3",
            "2f 0 7 0 0", END);
        due("verify", x.verify(), 0);
        tells(x, 7, 0, 1, 1, 3, ~3L, 0);
        tells(x, 8, 0, 1, 0x5555555555555555L, -1, 0, 0);
        // With sign, to the right: the greatest number that is not below 0, and one more.
        x = loaded("20 0 0 0 0", "54 0 0 0 2147483647", "c4 0 0 0 1", END);
        due("verify", x.verify(), 0);
        tells(x, 2, 0, 1, 0, 0x7fffffffL, ~0x7fffffffL, 0);
        tells(x, 3, 0, 1, 0, 0x3fffffffL, ~0x3fffffffL, 0);
        x = loaded("20 0 0 0 0", "54 0 0 0 2147483647", "7 0 0 0 1", "c4 0 0 0 1", END);
        due("verify", x.verify(), 0);
        tells(x, 3, 0, 1, 1, 0x80000000L, ~0xffffffffL, 0);
        tells(x, 4, 0, 1, 0, 0xffffffffL, ~0xffffffffL, 0);
        x = loaded("7a a 0 -8 0", "79 0 a -8 0", "77 0 0 0 1", "c7 0 0 0 1", "7 0 0 0 1", END);
        due("verify", x.verify(), 0);
        tells(x, 2, 0, 1, 0, -1, 0, 0);
        tells(x, 3, 0, 1, 0, Long.MAX_VALUE, Long.MIN_VALUE, 0);
        tells(x, 4, 0, 1, 0, Long.MAX_VALUE >> 1, 3L << 62, 0);
        x = loaded("7a a 0 -8 0", "79 0 a -8 0", "77 0 0 0 1", "7 0 0 0 1", "c7 0 0 0 1", END);
        due("verify", x.verify(), 0);
        tells(x, 4, 0, 1, 1, Long.MIN_VALUE, 0, 0);
        tells(x, 5, 0, 1, 0, -1, 0, 0);
    }

    private static void narrowing() {
        // Both ways of each sign, on 0 to 255, against 9; then against what leaves one way only.
        narrowed("15", 9, 9, 9, 0, 255);
        narrowed("15", 0, 0, 0, 1, 255);
        narrowed("15", 255, 255, 255, 0, 254);
        narrowed("15", 256, -1, -1, 0, 255);
        narrowed("55", 0, 1, 255, 0, 0);
        narrowed("25", 9, 10, 255, 0, 9);
        narrowed("25", 255, -1, -1, 0, 255);
        narrowed("25", -1, -1, -1, 0, 255);
        narrowed("35", 9, 9, 255, 0, 8);
        narrowed("35", 0, 0, 255, -1, -1);
        narrowed("a5", 9, 0, 8, 9, 255);
        narrowed("a5", 0, -1, -1, 0, 255);
        narrowed("b5", 9, 0, 9, 10, 255);
        narrowed("b5", -1, 0, 255, -1, -1);
        narrowed("65", 9, 0, 255, 0, 255);
        narrowed("45", 9, 0, 255, 0, 255);
        narrowed("16", 9, 0, 255, 0, 255);
        narrowed("a6", 9, 0, 255, 0, 255);
    }

    private static void narrowed(String code, int k, long yesLow, long yesHigh, long noLow, long noHigh) {
        FilterForge x = loaded("30 0 0 0 0", code + " 0 0 1 " + k, END, END);
        due("verify", x.verify(), 0);
        due(code + " " + k + " yes", x.known(3, 0, 0), yesLow < 0 ? -1 : 1);
        due(code + " " + k + " yes, low", x.known(3, 0, 1), Math.max(yesLow, 0));
        due(code + " " + k + " yes, high", x.known(3, 0, 2), Math.max(yesHigh, 0));
        due(code + " " + k + " no", x.known(2, 0, 0), noLow < 0 ? -1 : 1);
        due(code + " " + k + " no, low", x.known(2, 0, 1), Math.max(noLow, 0));
        due(code + " " + k + " no, high", x.known(2, 0, 2), Math.max(noHigh, 0));
    }

    public static void main(String[] args) {
        loading();
        traps();
        memory();
        reads();
        offences();
        knowing();
        setBytes();
        ranges();
        narrowing();
        System.exit(wrong == 0 ? 0 : 1);
    }
}
