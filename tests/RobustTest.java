import java.util.Random;

/** Any calls in any order: nothing is thrown, and a second object answers the same. */
public final class RobustTest {
    private static final String[] WORDS = {"ip", "tcp", "ether", "proto", "src", "host", "net", "port", "portrange", "less",
        "not ", "and ", "or ", "len", "(", ")", "{", "}", "[", "]", ":", "/", "-", "+", "*", "%", "&", "<<", "=", "<=", "!",
        "1", "0x10", "1.2.3.4", "0", "4294967295", "icmp[0]=1", "ether[12:2]", "= 8", "@", "\n", "not ip", "port 1 or "};
    private static int answers = 0;

    private static int number(Random r) {
        int[] some = {0, 1, -1, 2, 15, 16, 63, 64, 256, Integer.MAX_VALUE, Integer.MIN_VALUE, 11, 32, 31, 10};
        return r.nextInt(3) == 0 ? r.nextInt() : some[r.nextInt(some.length)];
    }

    private static void text(FilterForge x, Random r) {
        StringBuilder text = new StringBuilder(r.nextBoolean() ? "ip or " : "");
        int words = r.nextInt(r.nextInt(5) == 0 ? 200 : 12);
        for (int i = 0; i < words; i++) {
            text.append(WORDS[r.nextInt(WORDS.length)]).append(r.nextBoolean() ? " " : "");
        }
        cells(x, text.toString().getBytes(java.nio.charset.StandardCharsets.ISO_8859_1));
    }

    private static void cells(FilterForge x, byte[] row) {
        for (int i = 0; i + 20 <= row.length + 19; i += 20) {
            int[] five = new int[5];
            for (int k = 0; k < 20; k++) {
                five[k / 4] = five[k / 4] << 8 | (i + k < row.length ? row[i + k] & 255 : 0);
            }
            x.feed(five[0], five[1], five[2], five[3], five[4]);
        }
        x.end(row.length);
    }

    private static void program(FilterForge x, Random r) {
        int[] codes = {5, 7, 0x0f, 0xb7, 0xbf, 0xb4, 0x15, 0x1d, 0x35, 0x46, 149, 97, 105, 121, 123, 122, 98, 32, 40, 48, 64, 80,
            0x37, 0x97, 0x6f, 0xc7, 0x87, 0x84};
        int n = 1 + r.nextInt(20);
        byte[] row = new byte[8 * n];
        for (int i = 0; i < n; i++) {
            int code = r.nextInt(30) == 0 ? r.nextInt(256) : codes[r.nextInt(codes.length)];
            row[8 * i] = (byte) code;
            row[8 * i + 1] = (byte) (r.nextInt(12) == 0 ? r.nextInt(256) : r.nextInt(11) + 16 * (r.nextInt(3) == 0 ? 10 : 0));
            boolean goes = (code & 7) != 7 && (code & 7) != 4 && r.nextInt(4) > 0;
            row[8 * i + 2] = (byte) (goes ? r.nextInt(12) - 8 : 0);
            row[8 * i + 3] = (byte) (row[8 * i + 2] < 0 ? -1 : 0);
            row[8 * i + 4] = (byte) (r.nextInt(3) > 0 ? r.nextInt(256) : 0);
        }
        cells(x, row);
    }

    private static long call(FilterForge x, Random r) {
        switch (r.nextInt(26)) {
            case 0: return x.feed(r.nextInt(), r.nextInt(), r.nextInt(), r.nextInt(), r.nextInt());
            case 1: return x.end(number(r));
            case 2: return x.packet();
            case 3: return x.bytes(number(r), number(r));
            case 4: return x.compile();
            case 5: return x.load();
            case 6: return x.instruction(number(r));
            case 7: return x.verify();
            case 8: return x.known(number(r), number(r), number(r));
            case 9: return x.run(number(r));
            case 10: return x.translate();
            case 11: return x.raw();
            case 12: return x.word(number(r));
            case 13: return x.emulate(number(r));
            case 14: return x.ended(number(r));
            case 15: return x.register(number(r));
            case 16: return x.stack(number(r));
            case 17: return x.matches();
            case 18: return x.count(number(r));
            case 19: text(x, r); return x.compile();
            case 20: program(x, r); return x.load();
            case 21: program(x, r); return x.raw();
            case 22: return x.verify() * 31L + x.translate();
            case 23: return x.run(0);
            case 24: return x.emulate(0);
            default: return x.known(r.nextInt(20), r.nextInt(13), r.nextInt(6));
        }
    }

    public static void main(String[] args) {
        int rounds = args.length > 0 ? Integer.parseInt(args[0]) : 300;
        for (int round = 0; round < rounds; round++) {
            FilterForge x = new FilterForge();
            FilterForge y = new FilterForge();
            Random r = new Random(round);
            Random s = new Random(round);
            for (int i = 0; i < 400; i++) {
                long a = call(x, r);
                long b = call(y, s);
                answers += a == 0 ? 0 : 1;
                if (a != b) {
                    System.out.println("round " + round + ", call " + i + ": " + a + " and " + b);
                    System.exit(1);
                }
            }
        }
        System.out.println("calls by chance: " + answers + " answers that are not 0");
    }
}
