/** The edges of the tape, of packets and of counts (promises 1 to 5, 20; Terms 1, the first paragraph). */
public final class EdgeTapeTest extends Edge {
    private static void fill(FilterForge x, int size) {
        int[] cells = new int[size];
        for (int i = 0; i < size; i++) {
            cells[i] = i % 251 + 1;
        }
        tape(x, cells);
    }

    private static void newObject() {
        test("1: no packets", x -> {
            due("count(0)", x.count(0), 0);
            due("bytes(0, 0)", x.bytes(0, 0), -1);
            load(x, "b7 0 0 0 7", END);
            due("run(0)", x.run(0), 0);
            due("ended(1)", x.ended(1), 0);
        });
        test("1: no PROGRAM", x -> {
            packetOf(x, 5);
            due("count(1)", x.count(1), 0);
            due("instruction(0)", x.instruction(0), 0);
            due("run(0)", x.run(0), 0);
            due("ended(0)", x.ended(0), 0);
            due("verify()", x.verify(), -1);
            due("translate()", x.translate(), -1);
        });
        test("1: no OBJECT", x -> {
            packetOf(x, 5);
            due("count(2)", x.count(2), 0);
            due("word(0)", x.word(0), 0);
            due("emulate(0)", x.emulate(0), 0);
            due("ended(0)", x.ended(0), 0);
        });
        test("1: an empty TAPE", x -> {
            due("count(3)", x.count(3), 0);
            due("end(0)", x.end(0), 0);
            due("end(1)", x.end(1), -1);
        });
        test("1: objects have nothing of one another", x -> {
            fill(x, 40);
            packetOf(x, 3);
            load(x, "b7 0 0 0 7", END);
            FilterForge y = new FilterForge();
            due("count(0)", y.count(0), 0);
            due("count(1)", y.count(1), 0);
            due("count(3)", y.count(3), 0);
        });
        test("An object is used for at most 512 calls: the 512th still answers", x -> {
            for (int call = 1; call <= 100; call++) {
                due("feed", x.feed(call, 0, 0, 0, 0), 20 * call);
            }
            for (int call = 101; call <= 510; call++) {
                due("count(3)", x.count(3), 2000);
            }
            due("end(8)", x.end(8), 8);
            due("packet()", x.packet(), 0);
        });
    }

    private static void feeding() {
        test("2: twenty bytes more: how many it has", x -> {
            due("feed", x.feed(0, 0, 0, 0, 0), 20);
            due("feed", x.feed(0, 0, 0, 0, 0), 40);
            due("count(3)", x.count(3), 40);
        });
        test("2: twenty bytes more behind those that end() kept", x -> {
            x.feed(-1, -1, -1, -1, -1);
            x.end(1);
            due("feed", x.feed(0, 0, 0, 0, 0), 21);
            x.packet();
            due("bytes(0, 0)", x.bytes(0, 0), 0xff00000000000000L);
        });
        test("2: the highest of each number first", x -> {
            x.feed(0x80010203, 0x7f000001, -2, Integer.MIN_VALUE, Integer.MAX_VALUE);
            x.packet();
            due("bytes(0, 0)", x.bytes(0, 0), 0x800102037f000001L);
            due("bytes(0, 8)", x.bytes(0, 8), 0xfffffffe80000000L);
            due("bytes(0, 16)", x.bytes(0, 16), 0x7fffffff00000000L);
        });
        test("2: 2000 bytes are not more than 2000", x -> {
            fill(x, 1980);
            due("feed", x.feed(1, 2, 3, 4, 5), 2000);
        });
        test("2: -1: they would be more than 2000, by 1", x -> {
            fill(x, 1981);
            due("feed", x.feed(1, 2, 3, 4, 5), -1);
        });
        test("2: -1: they would be more than 2000, by 20", x -> {
            fill(x, 2000);
            due("feed", x.feed(1, 2, 3, 4, 5), -1);
        });
        test("2: nothing is done", x -> {
            fill(x, 1984);
            due("feed", x.feed(-1, -1, -1, -1, -1), -1);
            due("count(3)", x.count(3), 1984);
            due("load()", x.load(), 248);
            long last = 0;
            for (int i = 1983; i >= 1976; i--) {
                last = last << 8 | i % 251 + 1;
            }
            due("instruction(247)", x.instruction(247), last);
            due("instruction(248)", x.instruction(248), 0);
            due("instruction(0)", x.instruction(0), 0x0807060504030201L);
        });
    }

    private static void ending() {
        test("3: the TAPE keeps its first n bytes: n", x -> {
            x.feed(0x01020304, 0x05060708, 0, 0, 0);
            due("end(3)", x.end(3), 3);
            due("count(3)", x.count(3), 3);
            x.packet();
            due("bytes(0, 0)", x.bytes(0, 0), 0x0102030000000000L);
        });
        test("3: all that it has may be kept", x -> {
            x.feed(0, 0, 0, 0, 0);
            due("end(20)", x.end(20), 20);
            due("count(3)", x.count(3), 20);
        });
        test("3: none may be kept", x -> {
            x.feed(0, 0, 0, 0, 0);
            due("end(0)", x.end(0), 0);
            due("count(3)", x.count(3), 0);
        });
        test("3: all of a full one may be kept", x -> {
            fill(x, 2000);
            due("end(2000)", x.end(2000), 2000);
            due("end(2001)", x.end(2001), -1);
            due("end(1999)", x.end(1999), 1999);
        });
        test("3: -1, and nothing is done: it has not so many", x -> {
            x.feed(0, 0, 0, 0, 0);
            due("end(21)", x.end(21), -1);
            due("count(3)", x.count(3), 20);
            x.end(5);
            due("end(6)", x.end(6), -1);
            due("end(greatest)", x.end(Integer.MAX_VALUE), -1);
            due("count(3)", x.count(3), 5);
        });
        test("3: -1, and nothing is done: n is below 0", x -> {
            x.feed(0, 0, 0, 0, 0);
            due("end(-1)", x.end(-1), -1);
            due("end(least)", x.end(Integer.MIN_VALUE), -1);
            due("count(3)", x.count(3), 20);
        });
    }

    private static void packets() {
        test("4: its number: 0 to 15", x -> {
            for (int p = 0; p < 16; p++) {
                due("packet", packet(x, p), p);
            }
            for (int p = 0; p < 16; p++) {
                due("bytes(" + p + ", 0)", x.bytes(p, 0), (long) p << 56);
            }
        });
        test("4: -1: there are 16", x -> {
            for (int p = 0; p < 16; p++) {
                packet(x, p);
            }
            due("packet", packet(x, 99), -1);
            due("count(0)", x.count(0), 16);
            due("bytes(16, 0)", x.bytes(16, 0), -1);
            due("bytes(15, 0)", x.bytes(15, 0), 15L << 56);
        });
        test("4: -1 also of none, and of more than 256 bytes, if there are 16", x -> {
            for (int p = 0; p < 16; p++) {
                x.packet();
            }
            due("packet()", x.packet(), -1);
            fill(x, 257);
            due("packet()", x.packet(), -1);
        });
        test("4: 0 bytes are a packet", x -> {
            due("packet()", x.packet(), 0);
            due("count(0)", x.count(0), 1);
            due("bytes(0, 0)", x.bytes(0, 0), -1);
        });
        test("4: 256 bytes are a packet", x -> {
            due("packet", packetOf(x, 256), 0);
            due("bytes(0, 248)", x.bytes(0, 248), 0xf8f9fafbfcfdfeffL);
            due("bytes(0, 255)", x.bytes(0, 255), 0xff00000000000000L);
            due("bytes(0, 256)", x.bytes(0, 256), -1);
        });
        test("4: -2: more than 256 bytes, by 1", x -> {
            fill(x, 257);
            due("packet()", x.packet(), -2);
            due("count(0)", x.count(0), 0);
        });
        test("4: -2: more than 256 bytes, 2000", x -> {
            fill(x, 2000);
            due("packet()", x.packet(), -2);
            due("count(0)", x.count(0), 0);
        });
        test("4: a refused one leaves the number to the next", x -> {
            packet(x, 1);
            fill(x, 257);
            due("packet()", x.packet(), -2);
            due("packet", packet(x, 2), 1);
            due("bytes(0, 0)", x.bytes(0, 0), 1L << 56);
            due("bytes(1, 0)", x.bytes(1, 0), 2L << 56);
        });
        test("4: the TAPE is empty then", x -> {
            fill(x, 100);
            x.packet();
            due("count(3)", x.count(3), 0);
            due("feed", x.feed(0, 0, 0, 0, 0), 20);
        });
        test("4: the TAPE is empty then, also if it was refused", x -> {
            fill(x, 257);
            x.packet();
            due("count(3)", x.count(3), 0);
            for (int p = 0; p < 16; p++) {
                x.packet();
            }
            fill(x, 9);
            x.packet();
            due("count(3)", x.count(3), 0);
        });
        test("4: what comes on the TAPE later does not change a packet", x -> {
            packet(x, 1, 2, 3);
            tape(x, 7, 8, 9, 10);
            due("bytes(0, 0)", x.bytes(0, 0), 0x0102030000000000L);
        });
    }

    private static void bytes() {
        test("5: 8 at most, the first one highest", x -> {
            packetOf(x, 20);
            due("bytes(0, 1)", x.bytes(0, 1), 0x0102030405060708L);
            due("bytes(0, 12)", x.bytes(0, 12), 0x0c0d0e0f10111213L);
        });
        test("5: with 0 for those that it lacks", x -> {
            packetOf(x, 20);
            due("bytes(0, 13)", x.bytes(0, 13), 0x0d0e0f1011121300L);
            due("bytes(0, 19)", x.bytes(0, 19), 0x1300000000000000L);
        });
        test("5: with 0 for those that it lacks, not with those of the next packet", x -> {
            packet(x, 255, 254);
            packet(x, 253, 252);
            due("bytes(0, 1)", x.bytes(0, 1), 0xfe00000000000000L);
            due("bytes(1, 0)", x.bytes(1, 0), 0xfdfc000000000000L);
        });
        test("5: -1: there is no such packet", x -> {
            packetOf(x, 20);
            due("bytes(1, 0)", x.bytes(1, 0), -1);
            due("bytes(-1, 0)", x.bytes(-1, 0), -1);
            due("bytes(15, 0)", x.bytes(15, 0), -1);
            due("bytes(16, 0)", x.bytes(16, 0), -1);
            due("bytes(least, 0)", x.bytes(Integer.MIN_VALUE, 0), -1);
            due("bytes(greatest, 0)", x.bytes(Integer.MAX_VALUE, 0), -1);
        });
        test("5: -1: there is no byte i", x -> {
            packetOf(x, 20);
            due("bytes(0, 20)", x.bytes(0, 20), -1);
            due("bytes(0, -1)", x.bytes(0, -1), -1);
            due("bytes(0, -8)", x.bytes(0, -8), -1);
            due("bytes(0, 256)", x.bytes(0, 256), -1);
            due("bytes(0, least)", x.bytes(0, Integer.MIN_VALUE), -1);
            due("bytes(0, greatest)", x.bytes(0, Integer.MAX_VALUE), -1);
        });
        test("5: eight bytes 255 are -1, too", x -> {
            packet(x, 255, 255, 255, 255, 255, 255, 255, 255);
            due("bytes(0, 0)", x.bytes(0, 0), -1);
            due("bytes(0, 1)", x.bytes(0, 1), -256);
        });
    }

    private static void counts() {
        test("20: -1: no such what", x -> {
            due("count(-1)", x.count(-1), -1);
            due("count(6)", x.count(6), -1);
            due("count(least)", x.count(Integer.MIN_VALUE), -1);
            due("count(greatest)", x.count(Integer.MAX_VALUE), -1);
        });
        test("20: 0 of each at first", x -> {
            for (int what = 0; what <= 5; what++) {
                due("count(" + what + ")", x.count(what), 0);
            }
        });
        test("20: 0 packets, up to 16", x -> {
            for (int p = 1; p <= 17; p++) {
                x.packet();
                due("count(0)", x.count(0), Math.min(p, 16));
            }
        });
        test("20: 1 INSTRUCTIONS, of the PROGRAM that is", x -> {
            compile(x, "ip");
            due("count(1)", x.count(1), 7);
            load(x, END);
            due("count(1)", x.count(1), 1);
            tape(x, 1, 2, 3);
            x.load();
            due("count(1)", x.count(1), 1);
        });
        test("20: 2 WORDS, of the OBJECT that is", x -> {
            raw(x, 0x73, 0x73);
            due("count(2)", x.count(2), 2);
            load(x, "b7 0 0 0 7", END);
            due("count(2)", x.count(2), 2);
            x.translate();
            due("count(2)", x.count(2), 2);
            raw(x, 0x73);
            due("count(2)", x.count(2), 1);
        });
        test("20: 3 bytes of the TAPE, up to 2000", x -> {
            fill(x, 2000);
            due("count(3)", x.count(3), 2000);
            x.end(7);
            due("count(3)", x.count(3), 7);
        });
        test("20: 4 BLOCKS of the latest FILTER, also those that were left out", x -> {
            compile(x, "ip or ip");
            due("count(4)", x.count(4), 2);
            due("count(5)", x.count(5), 1);
        });
        test("20: 4, 5 BLOCKS stay behind a WRONG one and behind load()", x -> {
            compile(x, "ip or ip or ip");
            compile(x, "ip or");
            due("count(4)", x.count(4), 3);
            due("count(5)", x.count(5), 2);
            load(x, END);
            due("count(4)", x.count(4), 3);
            due("count(5)", x.count(5), 2);
        });
        test("20: 5: none was left out", x -> {
            compile(x, "ip or ip");
            compile(x, "ip or arp");
            due("count(5)", x.count(5), 0);
        });
    }

    public static void main(String[] args) {
        newObject();
        feeding();
        ending();
        packets();
        bytes();
        counts();
        finish("EdgeTapeTest");
    }
}
