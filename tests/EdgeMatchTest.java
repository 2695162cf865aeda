/** The edges of what a FILTER says of a packet, by matches(), run() and emulate() (promise 19; Terms 1). */
public final class EdgeMatchTest extends Edge {
    private static final int IP = 2048;
    private static final int IP6 = 34525;
    private static final int ARP = 2054;

    /** A packet of so many bytes 0, but for what stands in it: E type, then pairs of a place and a byte. */
    private static int[] frame(int size, int type, int... pairs) {
        int[] cells = new int[size];
        int[] all = new int[pairs.length + 4];
        all[0] = 12;
        all[1] = type >> 8;
        all[2] = 13;
        all[3] = type & 255;
        System.arraycopy(pairs, 0, all, 4, pairs.length);
        for (int i = 0; i < all.length; i += 2) {
            if (all[i] < size) {
                cells[all[i]] = all[i + 1];
            }
        }
        return cells;
    }

    private static int[][] of(int[]... packets) {
        return packets;
    }

    /** The bits of matches(), which run() and emulate() must tell, too. */
    private static void says(int[][] packets, String text, int bits) {
        FilterForge x = new FilterForge();
        for (int[] cells : packets) {
            packet(x, cells);
        }
        int length = compile(x, text);
        due("compile of " + text, length > 0 ? 1 : length, 1);
        due("matches of " + text, x.matches(), bits);
        due("translate of " + text, x.translate() > 0 ? 1 : 0, 1);
        int ran = 0;
        int emulated = 0;
        for (int p = 0; p < x.count(0); p++) {
            ran |= (int) x.run(p) << p;
            due("trap of " + text, x.ended(0), 0);
            emulated |= (int) x.emulate(p) << p;
            due("trap of " + text, x.ended(0), 0);
        }
        due("run of " + text, ran, bits);
        due("emulate of " + text, emulated, bits);
    }

    private static void answers() {
        test("19: -1: none was read", x -> {
            due("matches()", x.matches(), -1);
            packetOf(x, 20);
            due("matches()", x.matches(), -1);
        });
        test("19: -1: none was read, a WRONG one was, and a PROGRAM was loaded", x -> {
            packetOf(x, 20);
            compile(x, "ip and");
            due("matches()", x.matches(), -1);
            load(x, "b7 0 0 0 1", END);
            due("matches()", x.matches(), -1);
        });
        test("19: no packets: no bits", x -> {
            compile(x, "1 = 1");
            due("matches()", x.matches(), 0);
        });
        test("19: as bits: packet 0 is the lowest one, packet 15 the highest one of 16", x -> {
            for (int p = 0; p < 16; p++) {
                packet(x, p);
            }
            compile(x, "1 = 1");
            due("matches()", x.matches(), 65535);
            compile(x, "ether[0] = 15");
            due("matches()", x.matches(), 32768);
            compile(x, "ether[0] = 0");
            due("matches()", x.matches(), 1);
            compile(x, "1 = 2");
            due("matches()", x.matches(), 0);
        });
        test("19: packets that came behind compile(), too", x -> {
            compile(x, "ether[0] = 7");
            packet(x, 7);
            packet(x, 8);
            packet(x, 7);
            due("matches()", x.matches(), 5);
        });
        test("19: though the PROGRAM may be another one since", x -> {
            packet(x, 7);
            compile(x, "ether[0] = 7");
            load(x, "b7 0 0 0 0", END);
            due("matches()", x.matches(), 1);
            due("run(0)", x.run(0), 0);
        });
        test("19: the FILTER that compile() read last", x -> {
            packet(x, 7);
            compile(x, "ether[0] = 7");
            compile(x, "ether[0] = 8");
            due("matches()", x.matches(), 0);
        });
        test("19: what ended(), register(), stack() tell stays", x -> {
            packet(x, 7);
            compile(x, "len + len = 2");
            x.run(0);
            int steps = x.ended(1);
            x.matches();
            due("ended(1)", x.ended(1), steps);
            due("register(6)", x.register(6), 1);
            due("stack(56)", x.stack(56), 1);
        });
    }

    private static void reading() {
        int[][] x = of(frame(20, IP, 0, 128, 1, 1, 18, 3, 19, 4));
        test("READ(o, n): the first one highest", y -> {
            says(x, "ether[0 : 1] = 128", 1);
            says(x, "ether[0 : 2] = 32769", 1);
            says(x, "ether[0 : 4] = 0x80010000", 1);
            says(x, "ether[16 : 4] = 0x304", 1);
        });
        test("READ(o, n): if o + n is above L, it does NOT MATCH; L is not above L", y -> {
            says(x, "ether[19] = 4", 1);
            says(x, "ether[20] >= 0", 0);
            says(x, "ether[18 : 2] = 0x304", 1);
            says(x, "ether[19 : 2] >= 0", 0);
            says(x, "ether[16 : 4] = 0x304", 1);
            says(x, "ether[17 : 4] >= 0", 0);
        });
        test("READ(o, n): by a SUM likewise", y -> {
            says(x, "ether[len - 1] = 4", 1);
            says(x, "ether[len] >= 0", 0);
            says(x, "ether[len - 2 : 2] = 0x304", 1);
            says(x, "ether[len - 1 : 2] >= 0", 0);
            says(x, "ether[len - 4 : 4] = 0x304", 1);
            says(x, "ether[len - 3 : 4] >= 0", 0);
        });
        test("READ(o, n): above L, also where o + n is above 32 bits", y -> {
            says(x, "ether[4294967295] >= 0", 0);
            says(x, "ether[4294967295 : 2] >= 0", 0);
            says(x, "ether[4294967292 : 4] >= 0", 0);
            says(x, "ether[4294967293 : 4] >= 0", 0);
            says(x, "ether[len - 21] >= 0", 0);
            says(x, "ether[len - 21 : 2] >= 0", 0);
            says(x, "ether[len - 23 : 4] >= 0", 0);
            says(x, "ether[- 1 : 4] >= 0", 0);
            says(x, "ether[2147483647] >= 0", 0);
            says(x, "ether[2147483648] >= 0", 0);
        });
        test("READ(o, n) of a packet of 0 bytes, of 256", y -> {
            int[][] z = of(new int[0], new int[256], new int[1]);
            says(z, "ether[0] = 0", 6);
            says(z, "ether[255] = 0", 2);
            says(z, "ether[256] = 0", 0);
            says(z, "ether[252 : 4] = 0", 2);
            says(z, "ether[253 : 4] = 0", 0);
            says(z, "ether[0 : 2] = 0", 2);
            says(z, "len = 0", 1);
            says(z, "len = 256", 2);
        });
        test("NOT MATCH, whatever else there is: not", y -> {
            says(x, "not ether[20] = 1", 0);
            says(x, "not ether[len] = 1", 0);
            says(x, "not not ether[20] = 1", 0);
            says(x, "not ( ether[20] = 1 and 1 = 2 )", 0);
        });
        test("NOT MATCH, whatever else there is: behind it", y -> {
            says(x, "ether[20] = 1 or 1 = 1", 0);
            says(x, "( ether[20] = 1 or 1 = 1 ) or 1 = 1", 0);
            says(x, "ether[20] * 0 = 0", 0);
            says(x, "ether[20] & 0 = 0", 0);
            says(x, "ether[20] = ether[20]", 0);
            says(x, "1 = ether[20] or 1 = 1", 0);
        });
        test("NOT MATCH, whatever else there is: ahead of it in SUMS, which are worked all of them", y -> {
            says(x, "0 * ether[20] = 0", 0);
            says(x, "0 & ether[20] = 0 or 1 = 1", 0);
            says(x, "len = ether[20]", 0);
            says(x, "0 > ether[20] or 1 = 1", 0);
        });
        test("FILTERS go from the left, as far as it takes: and: not the right side, if the left one does not hold", y -> {
            says(x, "1 = 2 and ether[20] = 1", 0);
            says(x, "not ( 1 = 2 and ether[20] = 1 )", 1);
            says(x, "1 = 2 and ether[20] = 1 or 1 = 1", 1);
            says(x, "1 = 1 and ether[20] = 1 or 1 = 1", 0);
        });
        test("FILTERS go from the left, as far as it takes: or likewise", y -> {
            says(x, "1 = 1 or ether[20] = 1", 1);
            says(x, "not ( 1 = 1 or ether[20] = 1 ) or 1 = 1", 1);
            says(x, "1 = 2 or ether[20] = 1", 0);
            says(x, "1 = 1 or ether[20] = 1 and ether[20] = 2", 1);
            says(x, "1 = 1 and ( 1 = 1 or ether[20] = 1 )", 1);
        });
        test("and is stronger than or, not than both", y -> {
            says(x, "1 = 1 or 1 = 1 and 1 = 2", 1);
            says(x, "( 1 = 1 or 1 = 1 ) and 1 = 2", 0);
            says(x, "1 = 2 and 1 = 1 or 1 = 1", 1);
            says(x, "1 = 2 and ( 1 = 1 or 1 = 1 )", 0);
            says(x, "not 1 = 2 or 1 = 1", 1);
            says(x, "not ( 1 = 2 or 1 = 1 )", 0);
            says(x, "not 1 = 1 and 1 = 2", 0);
            says(x, "not 1 = 1 or 1 = 1", 1);
        });
    }

    private static void types() {
        test("E n: READ(12, 2) = n", y -> {
            int[][] x = of(frame(14, IP), frame(14, IP6), frame(14, ARP), frame(14, 0), frame(14, 65535), frame(13, 0));
            says(x, "ip", 1);
            says(x, "ip6", 2);
            says(x, "arp", 4);
            says(x, "ether proto 2048", 1);
            says(x, "ether proto 34525", 2);
            says(x, "ether proto 2054", 4);
            says(x, "ether proto 0", 8);
            says(x, "ether proto 65535", 16);
            says(x, "not ether proto 1", 31);
            says(x, "not ip", 30);
        });
        test("B 23 n: of ip: 24 bytes it takes", y -> {
            int[][] x = of(frame(24, IP, 23, 6), frame(24, IP, 23, 17), frame(24, IP, 23, 1), frame(24, IP, 23, 255),
                frame(24, IP, 23, 0), frame(23, IP), frame(24, ARP, 23, 6));
            says(x, "tcp", 1);
            says(x, "udp", 2);
            says(x, "icmp", 4);
            says(x, "ip proto 255", 8);
            says(x, "ip proto 0", 16);
            says(x, "ip proto 6", 1);
            says(x, "not tcp", 2 + 4 + 8 + 16 + 64);
            says(x, "not icmp", 1 + 2 + 8 + 16 + 64);
            says(x, "not ip proto 7", 31 + 64);
        });
        test("B 20 n: of ip6: 21 bytes it takes; icmp and ip proto are of E 2048 alone", y -> {
            int[][] x = of(frame(21, IP6, 20, 6), frame(21, IP6, 20, 17), frame(21, IP6, 20, 1), frame(20, IP6),
                frame(24, IP6, 23, 6), frame(24, IP, 20, 6));
            says(x, "tcp", 1);
            says(x, "udp", 2);
            says(x, "icmp", 0);
            says(x, "ip proto 6", 0);
            says(x, "not tcp", 2 + 4 + 16 + 32);
            says(x, "not icmp", 31 + 32);
        });
        test("src host, dst host, host", y -> {
            int[][] x = of(frame(34, IP, 26, 1, 27, 2, 28, 3, 29, 4), frame(34, IP, 30, 1, 31, 2, 32, 3, 33, 4),
                frame(34, IP, 26, 1, 27, 2, 28, 3, 29, 5), frame(30, IP, 26, 1, 27, 2, 28, 3, 29, 4), frame(29, IP), frame(34, ARP),
                frame(33, IP, 30, 1, 31, 2, 32, 3));
            says(x, "src host 1.2.3.4", 1 + 8);
            says(x, "dst host 1.2.3.4", 2);
            says(x, "host 1.2.3.4", 1 + 2 + 8);
            says(x, "not src host 1.2.3.4", 2 + 4 + 32 + 64);
            says(x, "not dst host 1.2.3.4", 1 + 4 + 32);
            says(x, "not host 1.2.3.4", 4 + 32);
        });
        test("host 255.255.255.255 and 0.0.0.0", y -> {
            int[][] x = of(frame(34, IP, 26, 255, 27, 255, 28, 255, 29, 255), frame(34, IP));
            says(x, "src host 255.255.255.255", 1);
            says(x, "src host 0.0.0.0", 2);
            says(x, "dst host 0.0.0.0", 3);
        });
        test("net: the highest N bits, for each N", y -> {
            for (int n = 1; n <= 32; n++) {
                long bit = 1L << (32 - n);
                long a = -bit & 0xFFFFFFFFL;
                int[][] cells = new int[4][];
                long[] values = {a, a | bit - 1, a ^ bit, a | bit - 1 >> 1};
                for (int p = 0; p < 4; p++) {
                    long v = values[p];
                    cells[p] = frame(34, IP, 26, (int) (v >> 24) & 255, 27, (int) (v >> 16) & 255, 28, (int) (v >> 8) & 255,
                        29, (int) v & 255);
                }
                String text = "src net " + (a >> 24) + "." + (a >> 16 & 255) + "." + (a >> 8 & 255) + "." + (a & 255) + "/" + n;
                says(cells, text, 11);
            }
        });
        test("net: of N 0, too: it READS, and all match that have the bytes", y -> {
            int[][] x = of(frame(34, IP, 26, 255, 30, 255), frame(33, IP), frame(30, IP, 29, 9), frame(29, IP), frame(34, ARP));
            says(x, "src net 0.0.0.0/0", 1 + 2 + 4);
            says(x, "dst net 0.0.0.0/0", 1);
            says(x, "net 0.0.0.0/0", 1 + 2 + 4);
            says(x, "not src net 0.0.0.0/0", 16);
            says(x, "not dst net 0.0.0.0/0", 16);
        });
        test("less n: len <= n", y -> {
            int[][] x = of(new int[0], new int[59], new int[60], new int[61], new int[256]);
            says(x, "less 60", 1 + 2 + 4);
            says(x, "less 0", 1);
            says(x, "less 255", 15);
            says(x, "less 256", 31);
            says(x, "less 4294967295", 31);
        });
        test("greater n: len >= n", y -> {
            int[][] x = of(new int[0], new int[59], new int[60], new int[61], new int[256]);
            says(x, "greater 60", 4 + 8 + 16);
            says(x, "greater 0", 31);
            says(x, "greater 256", 16);
            says(x, "greater 257", 0);
            says(x, "greater 4294967295", 0);
        });
    }

    private static int[] older(int size, int protocol, int lengthByte, int... pairs) {
        int[] cells = frame(size, IP, pairs);
        if (size > 23) {
            cells[14] = lengthByte;
            cells[23] = protocol;
        }
        return cells;
    }

    private static int[] newer(int size, int protocol, int... pairs) {
        int[] cells = frame(size, IP6, pairs);
        cells[20] = protocol;
        return cells;
    }

    private static void ports() {
        test("src port n: X 14 behind the 4 * lowest 4 bits of byte 14", y -> {
            int[][] x = of(older(60, 6, 0x45, 34, 1, 35, 2), older(60, 17, 0xf5, 34, 1, 35, 2), older(80, 6, 0x4f, 74, 1, 75, 2),
                older(60, 6, 0x40, 14, 0, 15, 2), older(60, 1, 0x45, 34, 1, 35, 2), older(60, 6, 0x46, 34, 1, 35, 2));
            says(x, "src port 258", 1 + 2 + 4);
            says(x, "src port 16386", 8);
            says(x, "dst port 258", 0);
        });
        test("dst port n: X 16", y -> {
            int[][] x = of(older(60, 6, 0x45, 36, 1, 37, 2), older(60, 17, 0xf5, 36, 1, 37, 2), older(80, 6, 0x4f, 76, 1, 77, 2),
                older(60, 6, 0x40, 16, 1, 17, 2), older(60, 1, 0x45, 36, 1, 37, 2), older(60, 6, 0x46, 36, 1, 37, 2));
            says(x, "dst port 258", 1 + 2 + 4 + 8);
            says(x, "src port 258", 0);
            says(x, "port 258", 1 + 2 + 4 + 8);
        });
        test("port: X 14, 16 up to the end of the packet", y -> {
            int[][] x = of(older(36, 6, 0x45, 34, 1, 35, 2), older(35, 6, 0x45, 34, 1), older(38, 6, 0x45, 36, 1, 37, 2),
                older(37, 6, 0x45, 36, 1), older(37, 6, 0x45, 34, 1, 35, 2));
            says(x, "src port 258", 1 + 16);
            says(x, "not src port 258", 4 + 8);
            says(x, "dst port 258", 4);
            says(x, "not dst port 258", 0);
            says(x, "port 258", 1 + 4 + 16);
            says(x, "not port 258", 0);
        });
        test("port: READ(20, 2) & 8191 = 0", y -> {
            int[][] x = of(older(60, 6, 0x45, 20, 0, 21, 0), older(60, 6, 0x45, 20, 0x20), older(60, 6, 0x45, 20, 0xe0),
                older(60, 6, 0x45, 21, 1), older(60, 6, 0x45, 20, 0x10), older(60, 6, 0x45, 20, 0x1f, 21, 255));
            says(x, "src port 0", 7);
            says(x, "dst port 0", 7);
            says(x, "port 0", 7);
            says(x, "portrange 0-65535", 7);
            says(x, "not port 0", 56);
            says(x, "tcp[0] = 0", 7);
            says(x, "not tcp[0] = 0", 56);
        });
        test("port of ip6: READ(54, 2), READ(56, 2)", y -> {
            int[][] x = of(newer(58, 6, 54, 1, 55, 2), newer(58, 17, 56, 1, 57, 2), newer(57, 6, 54, 1, 55, 2), newer(56, 17, 54, 1, 55, 2),
                newer(55, 6, 54, 1), newer(58, 1, 54, 1, 55, 2), newer(58, 6, 54, 2, 55, 1));
            says(x, "src port 258", 1 + 4 + 8);
            says(x, "dst port 258", 2);
            says(x, "port 258", 1 + 2 + 4 + 8);
            says(x, "not src port 258", 2 + 32 + 64);
            says(x, "not dst port 258", 1 + 32 + 64);
            says(x, "not port 258", 32 + 64);
        });
        test("port 65535, port 0", y -> {
            int[][] x = of(older(60, 6, 0x45, 34, 255, 35, 255), older(60, 17, 0x45, 36, 255, 37, 255), newer(58, 6, 54, 255, 55, 255));
            says(x, "src port 65535", 5);
            says(x, "dst port 65535", 2);
            says(x, "src port 0", 2);
            says(x, "dst port 0", 5);
            says(x, "port 0", 7);
        });
        test("portrange n - m: n and m are in it, those beside them not", y -> {
            int[][] x = of(older(60, 6, 0x45, 35, 4), older(60, 6, 0x45, 35, 5), older(60, 6, 0x45, 35, 9), older(60, 6, 0x45, 35, 10),
                newer(58, 17, 55, 4), newer(58, 17, 55, 5), newer(58, 17, 55, 9), newer(58, 17, 55, 10));
            says(x, "src portrange 5-9", 0x66);
            says(x, "src portrange 5-5", 0x22);
            says(x, "src portrange 9-9", 0x44);
            says(x, "src portrange 0-4", 0x11);
            says(x, "src portrange 10-65535", 0x88);
            says(x, "src portrange 0-65535", 0xff);
            says(x, "dst portrange 5-9", 0);
            says(x, "portrange 5-9", 0x66);
            says(x, "dst portrange 0-0", 0xff);
        });
        test("portrange: one of both ports in it, not one above n and the other below m", y -> {
            int[][] x = of(older(60, 6, 0x45, 35, 4, 37, 10), older(60, 6, 0x45, 35, 10, 37, 4), older(60, 6, 0x45, 35, 4, 37, 7));
            says(x, "portrange 5-9", 4);
            says(x, "not portrange 5-9", 3);
        });
    }

    private static void guards() {
        test("GUARDS: of ip, ip6, arp", y -> {
            int[][] x = of(frame(15, IP), frame(15, IP6), frame(15, ARP), frame(15, 0), frame(14, IP), frame(13, 0));
            says(x, "ip[0] = 0", 1);
            says(x, "ip6[0] = 0", 2);
            says(x, "arp[0] = 0", 4);
            says(x, "ether[14] = 0", 15);
            says(x, "not ip[0] = 0", 2 + 4 + 8);
            says(x, "not ip6[0] = 0", 1 + 4 + 8 + 16);
            says(x, "not ip[0] = 1", 1 + 2 + 4 + 8);
        });
        test("GUARDS: of tcp, udp, icmp: ip alone, and no later part", y -> {
            int[][] x = of(older(60, 6, 0x45), older(60, 17, 0x45), older(60, 1, 0x45), older(60, 6, 0x45, 21, 1), newer(60, 6),
                older(60, 2, 0x45));
            says(x, "tcp[0] = 0", 1);
            says(x, "udp[0] = 0", 2);
            says(x, "icmp[0] = 0", 4);
            says(x, "not tcp[0] = 1", 63);
            says(x, "not tcp[0] = 0", 62);
        });
        test("GUARDS: of each different one, wherever it stands: no packet is of two", y -> {
            int[][] x = of(older(60, 6, 0x45), older(60, 17, 0x45), frame(60, ARP));
            says(x, "tcp[0] + udp[0] = 0", 0);
            says(x, "tcp[0] = udp[0]", 0);
            says(x, "not tcp[0] = udp[0]", 7);
            says(x, "ip[ arp[0] ] = 0", 0);
            says(x, "ip[ tcp[0] ] >= 0", 1);
            says(x, "tcp[0] + ip[9] = 6", 1);
            says(x, "1 = 1 + ip[30]", 3);
        });
        test("GUARDS: ahead of the TEST: what does NOT MATCH in it counts only behind them", y -> {
            int[][] x = of(older(60, 6, 0x45), frame(14, ARP), frame(13, ARP));
            says(x, "not tcp[200] = 0", 2);
            says(x, "not ip[200] = 0", 2);
            says(x, "arp[200] = 0 or len = 60", 1);
            says(x, "ether[200] + arp[0] = 0 or len = 60", 1);
        });
        test("ACCESS: 14 + 4 * the lowest 4 bits of byte 14", y -> {
            int[][] x = of(older(40, 6, 0xf0, 14, 0), older(100, 6, 0x4f, 74, 7), older(100, 6, 0x45, 34, 7), older(74, 6, 0x4f));
            says(x, "tcp[0] = 240", 1);
            says(x, "tcp[0] = 7", 2 + 4);
            says(x, "tcp[len - len] = 7", 2 + 4);
            says(x, "tcp[0] >= 0", 7);
        });
        test("ACCESS: b + the SUM, up to the end of the packet", y -> {
            int[][] x = of(older(40, 6, 0x45, 39, 9), older(39, 6, 0x45, 38, 9));
            says(x, "tcp[5] = 9", 1);
            says(x, "tcp[4] = 9", 2);
            says(x, "tcp[4 : 2] = 9", 1);
            says(x, "tcp[2 : 4] = 9", 1);
            says(x, "ip[25] = 9", 1);
            says(x, "ip[24] = 9", 2);
            says(x, "ip[len - 15] = 9", 3);
            says(x, "ip[len - 14] = 9", 0);
        });
        test("what is added for a place is cut to 32 bits, too", y -> {
            int[][] x = of(older(60, 6, 0x45, 0, 77, 13, 0));
            says(x, "ip[4294967282] = 77", 1);
            says(x, "ip[{4294967282}] = 77", 1);
            says(x, "ip[len - 74] = 77", 1);
            says(x, "ip[4294967281] >= 0", 0);
            says(x, "tcp[4294967262] = 77", 1);
            says(x, "tcp[len - 94] = 77", 1);
            says(x, "tcp[4294967261] >= 0", 0);
            says(x, "ether[4294967295 + 1] = 77", 1);
        });
        test("ACCESS of tcp READS byte 14, also if the rest could be read", y -> {
            int[][] x = of(frame(24, IP, 23, 6));
            says(x, "tcp[0] >= 0", 1);
            says(x, "tcp[9] = 6", 1);
            says(x, "tcp[10] >= 0", 0);
        });
    }

    private static void sums() {
        int[][] x = of(new int[60], new int[0]);
        test("SUMS are worked in 32 bits without a sign: +", y -> {
            says(x, "4294967295 + 1 = 0", 3);
            says(x, "4294967295 + 4294967295 = 4294967294", 3);
            says(x, "len + 4294967295 = 59", 1);
        });
        test("SUMS are worked in 32 bits without a sign: -", y -> {
            says(x, "0 - 1 = 4294967295", 3);
            says(x, "len - 61 = 4294967295", 1);
            says(x, "len - 60 = 0", 1);
        });
        test("SUMS are worked in 32 bits without a sign: *", y -> {
            says(x, "65536 * 65536 = 0", 3);
            says(x, "4294967295 * 4294967295 = 1", 3);
            says(x, "65535 * 65537 = 4294967295", 3);
        });
        test("SUMS are worked in 32 bits without a sign: / %", y -> {
            says(x, "4294967295 / 2 = 2147483647", 3);
            says(x, "4294967295 / 4294967295 = 1", 3);
            says(x, "4294967294 / 4294967295 = 0", 3);
            says(x, "2147483648 / 4294967295 = 0", 3);
            says(x, "4294967295 % 10 = 5", 3);
            says(x, "4294967294 % 4294967295 = 4294967294", 3);
            says(x, "{ 0 - 1 } / { 0 - 2 } = 1", 3);
        });
        test("SUMS are worked in 32 bits without a sign: the signs of RELATIONS", y -> {
            says(x, "4294967295 > 0", 3);
            says(x, "2147483648 > 2147483647", 3);
            says(x, "{ 0 - 1 } > len", 3);
            says(x, "len < { 0 - 1 }", 3);
            says(x, "0 <= 4294967295", 3);
            says(x, "4294967295 >= 4294967295", 3);
            says(x, "4294967295 <= 4294967295", 3);
            says(x, "4294967295 < 4294967295", 0);
            says(x, "4294967295 != 0", 3);
            says(x, "4294967295 + 1 > 0", 0);
        });
        test("each sign of RELATIONS, below, at and above", y -> {
            int[][] z = of(new int[59], new int[60], new int[61]);
            says(z, "len = 60", 2);
            says(z, "len != 60", 5);
            says(z, "len < 60", 1);
            says(z, "len <= 60", 3);
            says(z, "len > 60", 4);
            says(z, "len >= 60", 6);
            says(z, "len = { 60 }", 2);
            says(z, "len != { 60 }", 5);
            says(z, "len < { 60 }", 1);
            says(z, "len <= { 60 }", 3);
            says(z, "len > { 60 }", 4);
            says(z, "len >= { 60 }", 6);
            says(z, "not len = 60", 5);
            says(z, "not len != 60", 2);
            says(z, "not len < 60", 6);
            says(z, "not len <= 60", 4);
            says(z, "not len > 60", 3);
            says(z, "not len >= 60", 1);
        });
        test("/ by 0: the packet does NOT MATCH", y -> {
            says(x, "len / 0 >= 0", 0);
            says(x, "not len / 0 >= 0", 0);
            says(x, "len / 0 = 1 or 1 = 1", 0);
            says(x, "60 / len = 1", 1);
            says(x, "not 60 / len = 7", 1);
            says(x, "60 / len = 7 or 1 = 1", 1);
            says(x, "len / { 0 } >= 0 or 1 = 1", 0);
            says(x, "len / - 0 >= 0 or 1 = 1", 0);
            says(x, "0 / 0 = 0 or 1 = 1", 0);
            says(x, "0 * { 1 / 0 } = 0", 0);
            says(x, "1 / { 4294967295 + 1 } >= 0", 0);
        });
        test("% by 0: the packet does NOT MATCH", y -> {
            says(x, "len % 0 >= 0", 0);
            says(x, "not len % 0 >= 0", 0);
            says(x, "len % 0 = 1 or 1 = 1", 0);
            says(x, "61 % len = 1", 1);
            says(x, "not 60 % len = 7", 1);
            says(x, "60 % len = 7 or 1 = 1", 1);
            says(x, "len % { 0 } >= 0 or 1 = 1", 0);
            says(x, "1 % { 4294967295 + 1 } >= 0", 0);
        });
        test("/ and % by 1", y -> {
            says(x, "len / 1 = len", 3);
            says(x, "len % 1 = 0", 3);
            says(x, "0 / 1 = 0", 3);
        });
        test("/ by 0 behind what did not have to be worked", y -> {
            says(x, "1 = 1 or len / 0 = 0", 3);
            says(x, "1 = 2 and len / 0 = 0 or 1 = 1", 3);
            says(x, "ip[0] / 0 = 0 or len = 0", 0);
        });
        test("<< by the lowest 5 bits of the right side", y -> {
            says(x, "1 << 31 = 2147483648", 3);
            says(x, "1 << 32 = 1", 3);
            says(x, "1 << 33 = 2", 3);
            says(x, "3 << 31 = 2147483648", 3);
            says(x, "1 << 4294967295 = 2147483648", 3);
            says(x, "5 << 0 = 5", 3);
            says(x, "1 << len = 0x10000000", 1);
            says(x, "1 << { 32 } = 1", 3);
            says(x, "1 << - 1 = 2147483648", 3);
        });
        test(">> by the lowest 5 bits of the right side, without a sign", y -> {
            says(x, "4294967295 >> 31 = 1", 3);
            says(x, "4294967295 >> 32 = 4294967295", 3);
            says(x, "4294967295 >> 33 = 2147483647", 3);
            says(x, "4294967295 >> 4294967295 = 1", 3);
            says(x, "5 >> 0 = 5", 3);
            says(x, "0x10000000 >> len = 1", 1);
            says(x, "8 >> { 35 } = 1", 3);
        });
        test("- x is 0 - x", y -> {
            says(x, "- 1 = 4294967295", 3);
            says(x, "- 0 = 0", 3);
            says(x, "- 2147483648 = 2147483648", 3);
            says(x, "- - 7 = 7", 3);
            says(x, "- len = 4294967236", 1);
            says(x, "1 - - 1 = 2", 3);
            says(x, "- 1 >> 31 = 1", 3);
            says(x, "- 2 * 3 = 4294967290", 3);
            says(x, "- { 2 + 3 } = 4294967291", 3);
        });
        test("len is L", y -> says(x, "len = 60", 1));
        test("from the left", y -> {
            says(x, "10 - 3 - 2 = 5", 3);
            says(x, "10 - { 3 - 2 } = 9", 3);
            says(x, "100 / 10 / 5 = 2", 3);
            says(x, "100 / 10 * 5 = 50", 3);
            says(x, "7 % 4 * 2 = 6", 3);
            says(x, "1 << 2 << 3 = 32", 3);
            says(x, "1 | 6 ^ 2 = 5", 3);
            says(x, "1 ^ 3 | 1 = 3", 3);
            says(x, "1 | 2 + 1 = 4", 3);
            says(x, "1 + 2 | 4 = 7", 3);
            says(x, "6 & 3 << 1 = 4", 3);
            says(x, "1 << 3 & 12 = 8", 3);
        });
        test("PRODUCT ahead of SUM", y -> {
            says(x, "1 + 2 * 3 = 7", 3);
            says(x, "2 * 3 + 1 = 7", 3);
            says(x, "8 | 6 & 3 = 10", 3);
            says(x, "1 + 1 << 3 = 9", 3);
            says(x, "10 - 9 % 5 = 6", 3);
            says(x, "{ 1 + 2 } * 3 = 9", 3);
        });
        test("a SUM as deep as it goes", y -> {
            int[][] z = of(older(100, 6, 0x45, 36, 9), older(60, 6, 0x45, 36, 9));
            says(z, "1 = 1 + 1 * { 1 + 1 * { 1 + 1 * 1 } } - 3", 3);
            says(z, "19 = 1 + 1 * tcp[ len - len + 1 * { len / len + 1 * len / len } ] * 2", 3);
            says(z, "1 + 1 * { 1 + 1 * tcp[ 1 + 1 * 1 ] } = 11", 3);
            says(z, "len = len + len * { len - len + len * { len - len + len * 0 } }", 3);
        });
    }

    public static void main(String[] args) {
        answers();
        reading();
        types();
        ports();
        guards();
        sums();
        finish("EdgeMatchTest");
    }
}
