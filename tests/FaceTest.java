/** A new object, the tape, packets and counts (promises 1 to 5, 20). */
public final class FaceTest {
    private static int wrong = 0;

    private static void due(String call, long got, long want) {
        if (got != want) {
            wrong++;
            System.out.println(call + " answered " + got + ", due is " + want);
        }
    }

    public static void main(String[] args) {
        newObject();
        tape();
        packets();
        System.exit(wrong == 0 ? 0 : 1);
    }

    private static void newObject() {
        FilterForge x = new FilterForge();
        int[] counts = {0, 0, 0, 0, 0, 0, -1, -1};
        for (int what = 0; what < counts.length; what++) {
            due("new count(" + what + ")", x.count(what), counts[what]);
        }
        due("count(-1)", x.count(-1), -1);
        due("count(least)", x.count(Integer.MIN_VALUE), -1);
        due("new verify", x.verify(), -1);
        due("new translate", x.translate(), -1);
        due("new matches", x.matches(), -1);
        due("new run", x.run(0), 0);
        due("new emulate", x.emulate(0), 0);
        due("new instruction", x.instruction(0), 0);
        due("new word", x.word(0), 0);
        due("new known 0", x.known(0, 0, 0), -1);
        due("new known 1", x.known(0, 0, 1), 0);
        for (int i = -1; i <= 33; i++) {
            due("new register", x.register(i), 0);
        }
        due("new stack", x.stack(0), 0);
        due("new stack 63", x.stack(63), 0);
        due("stack -1", x.stack(-1), -1);
        due("stack 64", x.stack(64), -1);
        for (int what = -1; what <= 3; what++) {
            due("new ended", x.ended(what), 0);
        }
        due("new bytes", x.bytes(0, 0), -1);
        due("load of nothing", x.load(), -1);
        due("raw of nothing", x.raw(), -1);
        due("compile of nothing", x.compile(), -1);
    }

    private static void tape() {
        FilterForge x = new FilterForge();
        for (int i = 1; i <= 100; i++) {
            due("feed", x.feed(i, 2, 3, 4, 5), 20 * i);
        }
        due("feed beyond", x.feed(1, 2, 3, 4, 5), -1);
        due("full", x.count(3), 2000);
        due("end above", x.end(2001), -1);
        due("end below 0", x.end(-1), -1);
        due("end at all", x.end(2000), 2000);
        due("end 1981", x.end(1981), 1981);
        due("feed beyond by 1", x.feed(1, 2, 3, 4, 5), -1);
        due("still", x.count(3), 1981);
        due("end 1980", x.end(1980), 1980);
        due("feed to the last", x.feed(1, 2, 3, 4, 5), 2000);
        due("end 0", x.end(0), 0);
        due("end 1 of none", x.end(1), -1);
        due("empty", x.count(3), 0);
    }

    private static void packets() {
        FilterForge x = new FilterForge();
        due("packet of nothing", x.packet(), 0);
        due("no byte in it", x.bytes(0, 0), -1);
        x.feed(0x01020304, 0x05060708, 0x090a0b0c, 0x0d0e0f10, 0xfffefdfc);
        x.end(18);
        due("packet", x.packet(), 1);
        due("the tape is empty", x.count(3), 0);
        due("bytes 0", x.bytes(1, 0), 0x0102030405060708L);
        due("bytes 11", x.bytes(1, 11), 0x0c0d0e0f10fffe00L);
        due("bytes 17", x.bytes(1, 17), 0xfe00000000000000L);
        due("bytes 18", x.bytes(1, 18), -1);
        due("bytes -1", x.bytes(1, -1), -1);
        due("bytes greatest", x.bytes(1, Integer.MAX_VALUE), -1);
        due("bytes of 2", x.bytes(2, 0), -1);
        due("bytes of -1", x.bytes(-1, 0), -1);
        for (int i = 0; i < 13; i++) {
            x.feed(-1, -1, -1, -1, -1);
        }
        x.end(257);
        due("too long", x.packet(), -2);
        due("empty behind it", x.count(3), 0);
        for (int i = 0; i < 13; i++) {
            x.feed(-1, -1, -1, -1, 0x11223344);
        }
        x.end(256);
        due("longest", x.packet(), 2);
        due("its last", x.bytes(2, 255), 0xff00000000000000L);
        due("its last 8", x.bytes(2, 248), -1);
        for (int i = 3; i < 15; i++) {
            due("packet", x.packet(), i);
        }
        for (int i = 0; i < 13; i++) {
            x.feed(-1, -1, -1, -1, 0x11223344);
        }
        x.end(256);
        due("16th, of the longest", x.packet(), 15);
        due("its last", x.bytes(15, 255), 0xff00000000000000L);
        due("of 1 less", x.bytes(14, 0), -1);
        due("17th", x.packet(), -1);
        for (int i = 0; i < 20; i++) {
            x.feed(0, 0, 0, 0, 0);
        }
        due("17th, too long as well", x.packet(), -1);
        due("packets", x.count(0), 16);
    }
}
