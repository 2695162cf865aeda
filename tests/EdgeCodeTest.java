/** The edges of how a FILTER becomes a PROGRAM (promises 6, 8, 20; Terms 3). */
public final class EdgeCodeTest extends Edge {
    private static final String LENGTH = "bf 6 1 0 0";
    private static final String[] ENDS = {"b4 0 0 0 1", END, "b4 0 0 0 0", END};

    /** The rows stand between r6 = r1 and MATCH. */
    private static void becomes(String text, String... rows) {
        FilterForge x = new FilterForge();
        due("compile of " + text, compile(x, text), rows.length + 5);
        due("count(1) of " + text, x.count(1), rows.length + 5);
        due("instruction 0 of " + text, x.instruction(0), instruction(LENGTH));
        for (int i = 0; i < rows.length; i++) {
            due("instruction " + (i + 1) + " of " + text, x.instruction(i + 1), instruction(rows[i]));
        }
        for (int i = 0; i < 4; i++) {
            due("end " + i + " of " + text, x.instruction(rows.length + 1 + i), instruction(ENDS[i]));
        }
        due("behind the last of " + text, x.instruction(rows.length + 5), 0);
        due("verify of " + text, x.verify(), 0);
    }

    private static void blocks(String text, int blocks, int leftOut) {
        FilterForge x = new FilterForge();
        due("compile of " + text, compile(x, text) > 0 ? 1 : 0, 1);
        due("BLOCKS of " + text, x.count(4), blocks);
        due("left out of " + text, x.count(5), leftOut);
    }

    private static void values() {
        test("N: r0 = K", y -> {
            becomes("0 = 0", "b4 0 0 0 0", "56 0 0 2 0");
            becomes("4294967295 = 2147483648", "b4 0 0 0 -1", "56 0 0 2 -2147483648");
            becomes("2147483647 = 1", "b4 0 0 0 2147483647", "56 0 0 2 1");
        });
        test("len: r0 = r6", y -> becomes("len = 1", "bc 0 6 0 0", "56 0 0 2 1"));
        test("a op b: if b is N: op with K, each op", y -> {
            String[] signs = {"+", "-", "|", "^", "*", "/", "%", "&", "<<", ">>"};
            String[] codes = {"4", "14", "44", "a4", "24", "34", "94", "54", "64", "74"};
            for (int i = 0; i < signs.length; i++) {
                becomes("len " + signs[i] + " 4294967295 = 1", "bc 0 6 0 0", codes[i] + " 0 0 0 -1", "56 0 0 2 1");
                becomes("len " + signs[i] + " 1 = 1", "bc 0 6 0 0", codes[i] + " 0 0 0 1", "56 0 0 2 1");
            }
        });
        test("a op b: else by the STACK and r7, each op", y -> {
            String[] signs = {"+", "-", "|", "^", "*", "&", "<<", ">>"};
            String[] codes = {"c", "1c", "4c", "ac", "2c", "5c", "6c", "7c"};
            for (int i = 0; i < signs.length; i++) {
                becomes("5 " + signs[i] + " len = 1", "b4 0 0 0 5", "7b a 0 -8 0", "bc 0 6 0 0", "bc 7 0 0 0", "79 0 a -8 0",
                    codes[i] + " 0 7 0 0", "56 0 0 2 1");
            }
        });
        test("/ and %: if b is no N: r7 = 0 goes to NO ahead of op", y -> {
            becomes("5 / len = 1", "b4 0 0 0 5", "7b a 0 -8 0", "bc 0 6 0 0", "bc 7 0 0 0", "79 0 a -8 0",
                "16 7 0 4 0", "3c 0 7 0 0", "56 0 0 2 1");
            becomes("5 % len = 1", "b4 0 0 0 5", "7b a 0 -8 0", "bc 0 6 0 0", "bc 7 0 0 0", "79 0 a -8 0",
                "16 7 0 4 0", "9c 0 7 0 0", "56 0 0 2 1");
        });
        test("/ and %: if b is N 0: it goes to NO, in place of op", y -> {
            becomes("len / 0 = 1", "bc 0 6 0 0", "5 0 0 3 0", "56 0 0 2 1");
            becomes("len % 0x00 = 1", "bc 0 6 0 0", "5 0 0 3 0", "56 0 0 2 1");
            becomes("len % 000 + 5 = 1", "bc 0 6 0 0", "5 0 0 4 0", "4 0 0 0 5", "56 0 0 2 1");
        });
        test("/ and %: if b is N, but not 0, nothing is ahead of op", y ->
            becomes("len / 1 = 1", "bc 0 6 0 0", "34 0 0 0 1", "56 0 0 2 1"));
        test("other ops by N 0 are ops", y -> {
            becomes("len * 0 = 1", "bc 0 6 0 0", "24 0 0 0 0", "56 0 0 2 1");
            becomes("len & 0 = 1", "bc 0 6 0 0", "54 0 0 0 0", "56 0 0 2 1");
            becomes("len << 0 = 1", "bc 0 6 0 0", "64 0 0 0 0", "56 0 0 2 1");
        });
        test("<< and >> by N above 31: K is N", y -> {
            becomes("len << 33 = 1", "bc 0 6 0 0", "64 0 0 0 33", "56 0 0 2 1");
            becomes("len >> 4294967295 = 1", "bc 0 6 0 0", "74 0 0 0 -1", "56 0 0 2 1");
        });
        test("- a: a; 0 - r0", y -> {
            becomes("- len = 1", "bc 0 6 0 0", "84 0 0 0 0", "56 0 0 2 1");
            becomes("- - len = 1", "bc 0 6 0 0", "84 0 0 0 0", "84 0 0 0 0", "56 0 0 2 1");
            becomes("- 5 = 1", "b4 0 0 0 5", "84 0 0 0 0", "56 0 0 2 1");
        });
        test("- N is no N: as b", y -> becomes("len + - 5 = 1", "bc 0 6 0 0", "7b a 0 -8 0", "b4 0 0 0 5", "84 0 0 0 0", "bc 7 0 0 0",
            "79 0 a -8 0", "c 0 7 0 0", "56 0 0 2 1"));
        test("- N is no N: as the right side of a TEST", y -> becomes("len = - 5", "bc 0 6 0 0", "7b a 0 -8 0", "b4 0 0 0 5", "84 0 0 0 0",
            "bc 7 0 0 0", "79 0 a -8 0", "5e 0 7 2 0"));
        test("- N is no N: as a place", y -> becomes("ether[- 5] = 1", "b4 0 0 0 5", "84 0 0 0 0", "50 0 0 0 0", "56 0 0 2 1"));
        test("{ N } is no N: as b", y -> becomes("len + { 5 } = 1", "bc 0 6 0 0", "7b a 0 -8 0", "b4 0 0 0 5", "bc 7 0 0 0",
            "79 0 a -8 0", "c 0 7 0 0", "56 0 0 2 1"));
        test("{ N } is no N: / { 0 }", y -> becomes("len / { 0 } = 1", "bc 0 6 0 0", "7b a 0 -8 0", "b4 0 0 0 0", "bc 7 0 0 0",
            "79 0 a -8 0", "16 7 0 4 0", "3c 0 7 0 0", "56 0 0 2 1"));
        test("{ N } is no N: as the right side of a TEST", y -> becomes("len = { { 5 } }", "bc 0 6 0 0", "7b a 0 -8 0", "b4 0 0 0 5",
            "bc 7 0 0 0", "79 0 a -8 0", "5e 0 7 2 0"));
        test("{ N } is no N: as a place", y -> becomes("ether[{ 5 }] = 1", "b4 0 0 0 5", "50 0 0 0 0", "56 0 0 2 1"));
        test("{ } alone make nothing", y -> {
            becomes("{ len } = 1", "bc 0 6 0 0", "56 0 0 2 1");
            becomes("{ { len + 1 } } = 1", "bc 0 6 0 0", "4 0 0 0 1", "56 0 0 2 1");
            becomes("{ 5 } = 1", "b4 0 0 0 5", "56 0 0 2 1");
            becomes("{ 5 } + 1 = 1", "b4 0 0 0 5", "4 0 0 0 1", "56 0 0 2 1");
            becomes("- { 5 } = 1", "b4 0 0 0 5", "84 0 0 0 0", "56 0 0 2 1");
        });
        test("1 + 2 * 3: a PRODUCT as b is no N", y -> becomes("1 + 2 * 3 = 1", "b4 0 0 0 1", "7b a 0 -8 0", "b4 0 0 0 2", "24 0 0 0 3",
            "bc 7 0 0 0", "79 0 a -8 0", "c 0 7 0 0", "56 0 0 2 1"));
        test("OFF -8 - 8 d: deeper and deeper, -56 at last", y -> becomes("1 = len + len * { len + len * { len + len * len } }",
            "b4 0 0 0 1", "7b a 0 -8 0", "bc 0 6 0 0", "7b a 0 -16 0", "bc 0 6 0 0", "7b a 0 -24 0", "bc 0 6 0 0", "7b a 0 -32 0",
            "bc 0 6 0 0", "7b a 0 -40 0", "bc 0 6 0 0", "7b a 0 -48 0", "bc 0 6 0 0", "7b a 0 -56 0", "bc 0 6 0 0", "bc 7 0 0 0",
            "79 0 a -56 0", "2c 0 7 0 0", "bc 7 0 0 0", "79 0 a -48 0", "c 0 7 0 0", "bc 7 0 0 0", "79 0 a -40 0", "2c 0 7 0 0",
            "bc 7 0 0 0", "79 0 a -32 0", "c 0 7 0 0", "bc 7 0 0 0", "79 0 a -24 0", "2c 0 7 0 0", "bc 7 0 0 0", "79 0 a -16 0",
            "c 0 7 0 0", "bc 7 0 0 0", "79 0 a -8 0", "5e 0 7 2 0"));
        test("OFF -8 - 8 d: the next one from the left is at the same d", y -> becomes("len + len + len = 1", "bc 0 6 0 0", "7b a 0 -8 0",
            "bc 0 6 0 0", "bc 7 0 0 0", "79 0 a -8 0", "c 0 7 0 0", "7b a 0 -8 0", "bc 0 6 0 0", "bc 7 0 0 0", "79 0 a -8 0",
            "c 0 7 0 0", "56 0 0 2 1"));
    }

    private static void accesses() {
        test("ACCESS with N in [ ]: CODE 32, 40, 48 with K b + N", y -> {
            becomes("ether[0] = 1", "30 0 0 0 0", "56 0 0 2 1");
            becomes("ether[7 : 1] = 1", "30 0 0 0 7", "56 0 0 2 1");
            becomes("ether[7 : 2] = 1", "28 0 0 0 7", "56 0 0 2 1");
            becomes("ether[7 : 4] = 1", "20 0 0 0 7", "56 0 0 2 1");
            becomes("ip[0] = 1", "28 0 0 0 12", "56 0 0 4 2048", "30 0 0 0 14", "56 0 0 2 1");
            becomes("ip6[7 : 2] = 1", "28 0 0 0 12", "56 0 0 4 34525", "28 0 0 0 21", "56 0 0 2 1");
            becomes("arp[7 : 4] = 1", "28 0 0 0 12", "56 0 0 4 2054", "20 0 0 0 21", "56 0 0 2 1");
        });
        test("b + N, K: cut to 32 bits", y -> {
            becomes("ether[4294967295] = 1", "30 0 0 0 -1", "56 0 0 2 1");
            becomes("ether[2147483648] = 1", "30 0 0 0 -2147483648", "56 0 0 2 1");
            becomes("ip[4294967281] = 1", "28 0 0 0 12", "56 0 0 4 2048", "30 0 0 0 -1", "56 0 0 2 1");
            becomes("ip[4294967282] = 1", "28 0 0 0 12", "56 0 0 4 2048", "30 0 0 0 0", "56 0 0 2 1");
            becomes("ip[2147483634] = 1", "28 0 0 0 12", "56 0 0 4 2048", "30 0 0 0 -2147483648", "56 0 0 2 1");
        });
        test("ACCESS, else: the SUM; CODE 64, 72, 80 with S r0, K b", y -> {
            becomes("ether[len] = 1", "bc 0 6 0 0", "50 0 0 0 0", "56 0 0 2 1");
            becomes("ether[len : 2] = 1", "bc 0 6 0 0", "48 0 0 0 0", "56 0 0 2 1");
            becomes("ether[len : 4] = 1", "bc 0 6 0 0", "40 0 0 0 0", "56 0 0 2 1");
            becomes("arp[len] = 1", "28 0 0 0 12", "56 0 0 5 2054", "bc 0 6 0 0", "50 0 0 0 14", "56 0 0 2 1");
            becomes("ether[1 + 2] = 1", "b4 0 0 0 1", "4 0 0 0 2", "50 0 0 0 0", "56 0 0 2 1");
        });
        test("ACCESS of tcp, udp, icmp, also with N in [ ]", y -> {
            String[] names = {"tcp", "udp", "icmp"};
            int[] numbers = {6, 17, 1};
            String[] codes = {"50", "48", "40"};
            int[] sizes = {1, 2, 4};
            for (int i = 0; i < 3; i++) {
                becomes(names[i] + "[3 : " + sizes[i] + "] = 1", "28 0 0 0 12", "56 0 0 16 2048", "30 0 0 0 23",
                    "56 0 0 14 " + numbers[i], "28 0 0 0 20", "54 0 0 0 8191", "56 0 0 11 0", "b4 0 0 0 3", "7b a 0 -8 0",
                    "30 0 0 0 14", "54 0 0 0 15", "64 0 0 0 2", "79 7 a -8 0", "c 0 7 0 0", codes[i] + " 0 0 0 14", "56 0 0 2 1");
            }
        });
        test("ACCESS of tcp at a DEPTH", y -> becomes("1 = tcp[0]", "28 0 0 0 12", "56 0 0 20 2048", "30 0 0 0 23", "56 0 0 18 6",
            "28 0 0 0 20", "54 0 0 0 8191", "56 0 0 15 0", "b4 0 0 0 1", "7b a 0 -8 0", "b4 0 0 0 0", "7b a 0 -16 0", "30 0 0 0 14",
            "54 0 0 0 15", "64 0 0 0 2", "79 7 a -16 0", "c 0 7 0 0", "50 0 0 0 14", "bc 7 0 0 0", "79 0 a -8 0", "5e 0 7 2 0"));
        test("GUARDS: for each different one, in the order of the first of them", y -> {
            becomes("tcp[0] = arp[1]", "28 0 0 0 12", "56 0 0 22 2048", "30 0 0 0 23", "56 0 0 20 6", "28 0 0 0 20",
                "54 0 0 0 8191", "56 0 0 17 0", "28 0 0 0 12", "56 0 0 15 2054", "b4 0 0 0 0", "7b a 0 -8 0", "30 0 0 0 14",
                "54 0 0 0 15", "64 0 0 0 2", "79 7 a -8 0", "c 0 7 0 0", "50 0 0 0 14", "7b a 0 -8 0", "30 0 0 0 15",
                "bc 7 0 0 0", "79 0 a -8 0", "5e 0 7 2 0");
            blocks("tcp[0] = arp[1]", 5, 0);
            becomes("arp[1] = tcp[0]", "28 0 0 0 12", "5 0 0 2 0");
            blocks("arp[1] = tcp[0]", 5, 4);
            blocks("tcp[ arp[0] ] = 0", 5, 0);
            blocks("arp[ tcp[0] ] = 0", 5, 4);
        });
        test("GUARDS: one for each of them, none of ether; BLOCKS", y -> {
            blocks("ether[0] = 1", 1, 0);
            blocks("ip[0] = 1", 2, 0);
            blocks("ip[0] = ip[1]", 2, 0);
            blocks("icmp[0] = 1", 4, 0);
            blocks("tcp[0] + tcp[1] = udp[2]", 7, 0);
            blocks("ether[ip[0] + ip6[0]] = arp[0]", 4, 3);
            blocks("tcp[0] + udp[0] + icmp[0] + ip[0] + ip6[0] + arp[0] = ether[0]", 13, 3);
        });
    }

    private static void primitives() {
        test("E n: n up to 65535", y -> {
            becomes("ether proto 65535", "28 0 0 0 12", "56 0 0 2 65535");
            becomes("ether proto 0", "28 0 0 0 12", "56 0 0 2 0");
        });
        test("ip proto n: n up to 255", y ->
            becomes("ip proto 255", "28 0 0 0 12", "56 0 0 4 2048", "30 0 0 0 23", "56 0 0 2 255"));
        test("net of N 0, too: m is 0", y ->
            becomes("dst net 0.0.0.0/0", "28 0 0 0 12", "56 0 0 5 2048", "20 0 0 0 30", "54 0 0 0 0", "56 0 0 2 0"));
        test("net of N 32, too: m is -1", y ->
            becomes("src net 255.255.255.255/32", "28 0 0 0 12", "56 0 0 5 2048", "20 0 0 0 26", "54 0 0 0 -1", "56 0 0 2 -1"));
        test("net of N 1: m is the highest bit", y -> becomes("src net 128.0.0.0/1", "28 0 0 0 12", "56 0 0 5 2048", "20 0 0 0 26",
            "54 0 0 0 -2147483648", "56 0 0 2 -2147483648"));
        test("host: no m", y -> becomes("src host 255.255.255.255", "28 0 0 0 12", "56 0 0 4 2048", "20 0 0 0 26", "56 0 0 2 -1"));
        test("net: either side", y -> becomes("net 10.0.0.0/8", "28 0 0 0 12", "56 0 0 8 2048", "20 0 0 0 26", "54 0 0 0 -16777216",
            "16 0 0 3 167772160", "20 0 0 0 30", "54 0 0 0 -16777216", "56 0 0 2 167772160"));
        test("portrange n - n is two TESTS", y -> {
            blocks("src port 7", 9, 0);
            blocks("src portrange 7-7", 11, 0);
            blocks("port 7", 11, 0);
            blocks("portrange 7-7", 15, 0);
            blocks("src portrange 0-0", 11, 0);
            blocks("portrange 0-65535", 15, 0);
            becomes("src portrange 0-0", "28 0 0 0 12", "56 0 0 17 2048", "30 0 0 0 23", "16 0 0 2 6", "30 0 0 0 23",
                "56 0 0 13 17", "28 0 0 0 20", "54 0 0 0 8191", "56 0 0 10 0", "30 0 0 0 14", "54 0 0 0 15", "64 0 0 0 2",
                "48 0 0 0 14", "a6 0 0 5 0", "30 0 0 0 14", "54 0 0 0 15", "64 0 0 0 2", "48 0 0 0 14", "b6 0 0 10 0",
                "28 0 0 0 12", "56 0 0 10 34525", "30 0 0 0 20", "16 0 0 2 6", "30 0 0 0 20", "56 0 0 6 17", "28 0 0 0 54",
                "a6 0 0 4 0", "28 0 0 0 54", "26 0 0 2 0");
        });
        test("less n, greater n: n up to 4294967295", y -> {
            becomes("less 4294967295", "bc 0 6 0 0", "26 0 0 2 -1");
            becomes("greater 4294967295", "bc 0 6 0 0", "a6 0 0 2 -1");
            becomes("less 0", "bc 0 6 0 0", "26 0 0 2 0");
        });
        test("BLOCKS of the others", y -> {
            blocks("ip", 1, 0);
            blocks("tcp", 4, 0);
            blocks("udp", 4, 0);
            blocks("icmp", 2, 0);
            blocks("ip proto 9", 2, 0);
            blocks("src host 1.2.3.4", 2, 0);
            blocks("host 1.2.3.4", 3, 0);
            blocks("net 1.2.3.4/32", 3, 0);
            blocks("less 9", 1, 0);
        });
    }

    private static void ways() {
        test("if YES is n: the other sign, to NO", y -> {
            String[] signs = {"=", "!=", "<", ">=", ">", "<="};
            String[] codes = {"56", "16", "36", "a6", "b6", "26"};
            for (int i = 0; i < signs.length; i++) {
                becomes("len " + signs[i] + " 7", "bc 0 6 0 0", codes[i] + " 0 0 2 7");
            }
        });
        test("if NO is n: the sign, to YES", y -> {
            String[] signs = {"=", "!=", "<", ">=", ">", "<="};
            String[] codes = {"16", "56", "a6", "36", "26", "b6"};
            for (int i = 0; i < signs.length; i++) {
                becomes("len " + signs[i] + " 7 or len = 8", "bc 0 6 0 0", codes[i] + " 0 0 2 7", "bc 0 6 0 0", "56 0 0 2 8");
            }
        });
        test("not: the ways are changed, the sign is not", y -> {
            becomes("not len = 7", "bc 0 6 0 0", "16 0 0 2 7");
            becomes("not not len = 7", "bc 0 6 0 0", "56 0 0 2 7");
            becomes("not ( len < 7 or len > 8 )", "bc 0 6 0 0", "a6 0 0 4 7", "bc 0 6 0 0", "26 0 0 2 8");
            becomes("not ( len < 7 and len > 8 )", "bc 0 6 0 0", "36 0 0 2 7", "bc 0 6 0 0", "26 0 0 2 8");
        });
        test("else the sign, to YES, and CODE 5 to NO", y -> becomes("( len = 1 or ip ) and ip or arp", "bc 0 6 0 0", "16 0 0 3 1",
            "28 0 0 0 12", "16 0 0 5 2048", "5 0 0 2 0", "28 0 0 0 12", "16 0 0 2 2048", "28 0 0 0 12", "56 0 0 2 2054"));
        test("if YES and NO go to one place: CODE 5, if that is not n", y -> {
            becomes("ip and arp", "28 0 0 0 12", "5 0 0 2 0");
            becomes("ip and arp or len = 1 and len = 2", "28 0 0 0 12", "bc 0 6 0 0", "56 0 0 4 1", "bc 0 6 0 0", "56 0 0 2 2");
        });
        test("if YES and NO go to one place: nothing, if that is n", y -> {
            becomes("ip or not ip", "28 0 0 0 12");
            becomes("( ip or not ip ) and len = 1", "28 0 0 0 12", "bc 0 6 0 0", "56 0 0 2 1");
        });
        test("OFF: from the next one on, to MATCH as to NO", y -> becomes("len = 1 or len = 2 or len = 3", "bc 0 6 0 0", "16 0 0 4 1",
            "bc 0 6 0 0", "16 0 0 2 2", "bc 0 6 0 0", "56 0 0 2 3"));
        test("OFF: as far as there are INSTRUCTIONS", y -> {
            FilterForge x = new FilterForge();
            String text = "len = 1" + " or 1+1=3".repeat(200);
            due("compile", compile(x, text), 1 + 2 + 600 + 4);
            due("instruction(2)", x.instruction(2), instruction("16 0 0 600 1"));
        });
        test("the BLOCKS stand in the order of 1", y -> becomes("( len = 3 or len = 1 ) and ( len = 2 or len = 4 )", "bc 0 6 0 0",
            "16 0 0 2 3", "bc 0 6 0 0", "56 0 0 6 1", "bc 0 6 0 0", "16 0 0 2 2", "bc 0 6 0 0", "56 0 0 2 4"));
    }

    private static void decided() {
        test("DECIDED by a YES way: YES if both k are the same", y -> {
            blocks("ether[0] = 1 and ether[0] = 1", 2, 1);
            becomes("ether[0] = 1 and ether[0] = 1", "30 0 0 0 0", "56 0 0 2 1");
        });
        test("DECIDED by a YES way: else NO", y -> {
            blocks("ether[0] = 1 and ether[0] = 2", 2, 1);
            becomes("ether[0] = 1 and ether[0] = 2", "30 0 0 0 0", "5 0 0 2 0");
            becomes("ether[0] = 1 and not ether[0] = 2", "30 0 0 0 0", "56 0 0 2 1");
        });
        test("DECIDED by a NO way, if both are the same: NO", y -> {
            blocks("ether[0] = 1 or ether[0] = 1", 2, 1);
            becomes("ether[0] = 1 or ether[0] = 1", "30 0 0 0 0", "56 0 0 2 1");
            becomes("ether[0] = 1 or not ether[0] = 1", "30 0 0 0 0");
        });
        test("DECIDED by a NO way: not, if they are not the same", y -> {
            blocks("ether[0] = 1 or ether[0] = 2", 2, 0);
            blocks("not ether[0] = 1 and ether[0] = 2", 2, 0);
        });
        test("DECIDED: the same n", y -> {
            blocks("ether[0 : 2] = 1 and ether[0] = 1", 2, 0);
            blocks("ether[0 : 2] = 1 and ether[0 : 4] = 1", 2, 0);
            blocks("ether[0 : 1] = 1 and ether[0] = 1", 2, 1);
            blocks("ether[0 : 4] = 1 and ether[0 : 4] = 1", 2, 1);
        });
        test("DECIDED: the same o, however it is told", y -> {
            blocks("ether[0] = 1 and ether[1] = 1", 2, 0);
            blocks("ip[0] = 1 and ether[14] = 1", 3, 1);
            blocks("ip[0] = 1 and ether[13] = 1", 3, 0);
            blocks("ether[12 : 2] = 2048 and ip", 2, 1);
            blocks("ip[4294967294 : 2] = 2048", 2, 1);
            blocks("ip[4294967294 : 2] = 2049", 2, 1);
        });
        test("DECIDED: { } hide nothing of it: the place", y -> {
            blocks("ether[{ 0 }] = 1 and ether[0] = 1", 2, 1);
            blocks("ether[0] = 1 and ether[{ 0 }] = 1", 2, 1);
            blocks("ip[{ 4294967294 } : 2] = 2048", 2, 1);
            blocks("{ ether[0] } = 1 and { ether[0] } = 1", 2, 1);
        });
        test("DECIDED: { } hide nothing of it: k", y -> {
            blocks("ether[0] = { 1 } and ether[0] = 1", 2, 1);
            blocks("ether[0] = 1 and ether[0] = { { 1 } }", 2, 1);
            blocks("ether[0] = { 1 } or ether[0] = { 2 }", 2, 0);
        });
        test("DECIDED: told by numbers: the place", y -> {
            blocks("ether[len] = 1 and ether[len] = 1", 2, 0);
            blocks("ether[- 1] = 1 and ether[- 1] = 1", 2, 0);
            blocks("ether[0 + 0] = 1 and ether[0 + 0] = 1", 2, 0);
            blocks("ether[ether[0]] = 1 and ether[ether[0]] = 1", 2, 0);
            blocks("tcp[0] = 1 and ether[0] = 1 and ether[0] = 1", 6, 1);
        });
        test("DECIDED: told by numbers: k", y -> {
            blocks("ether[0] = len and ether[0] = len", 2, 0);
            blocks("ether[0] = - 1 and ether[0] = - 1", 2, 0);
            blocks("ether[0] = 1 + 1 and ether[0] = 1 + 1", 2, 0);
            blocks("ether[0] = ether[1] and ether[0] = ether[1]", 2, 0);
        });
        test("DECIDED: READ(o, n) = k, and nothing else", y -> {
            blocks("ether[0] != 1 and ether[0] != 1", 2, 0);
            blocks("ether[0] > 1 and ether[0] > 1", 2, 0);
            blocks("ether[0] = 1 and ether[0] != 1", 2, 0);
            blocks("ether[0] != 1 and ether[0] = 1", 2, 0);
            blocks("1 = ether[0] and 1 = ether[0]", 2, 0);
            blocks("ether[0] & 1 = 1 and ether[0] & 1 = 1", 2, 0);
            blocks("ether[0] + 0 = 1 and ether[0] + 0 = 1", 2, 0);
            blocks("- ether[0] = 1 and - ether[0] = 1", 2, 0);
            blocks("len = 1 and len = 1", 2, 0);
            blocks("1 = 1 and 1 = 1", 2, 0);
        });
        test("DECIDED: k up to 32 bits", y -> {
            blocks("ether[0 : 4] = 4294967295 and ether[0 : 4] = 0xffffffff", 2, 1);
            becomes("ether[0 : 4] = 4294967295 and ether[0 : 4] = 2147483647", "20 0 0 0 0", "5 0 0 2 0");
        });
        test("DECIDED: of PRIMITIVES and GUARDS, too", y -> {
            blocks("ip and ip proto 6", 3, 1);
            blocks("ip proto 6 and ip[9] = 6", 4, 0);
            blocks("tcp and ip", 5, 0);
            blocks("ip and tcp", 5, 1);
            blocks("ip and tcp[0] = 1", 5, 1);
            blocks("icmp and icmp[0] = 1", 6, 0);
            blocks("ip and arp[0] = 1", 3, 2);
            blocks("host 1.2.3.4 or host 1.2.3.4", 6, 0);
            blocks("src host 1.2.3.4 or src host 1.2.3.4", 4, 0);
        });
        test("as long as there is one: a way goes on by more of them", y -> {
            blocks("ip and ip and ip and ip", 4, 3);
            becomes("ip and ip and ip and len = 1", "28 0 0 0 12", "56 0 0 4 2048", "bc 0 6 0 0", "56 0 0 2 1");
            blocks("ip or ip or ip or arp", 4, 2);
            blocks("ip and arp or ip", 3, 2);
            becomes("ip and arp or ip", "28 0 0 0 12", "56 0 0 2 2048");
        });
        test("a way that stops at another BLOCK goes no further", y ->
            blocks("ip and len = 1 and ip", 3, 0));
        test("BLOCKS to which no way leads are left out: not those to which another one leads", y -> {
            blocks("( len = 1 or ip ) and ip", 3, 0);
            blocks("( ip or len = 1 ) and ip", 3, 0);
        });
        test("BLOCKS to which no way leads from the first BLOCK on, by any ways", y -> {
            blocks("ip and arp and len = 1 and len = 2", 4, 3);
            becomes("ip and arp and len = 1 and len = 2", "28 0 0 0 12", "5 0 0 2 0");
            blocks("ip and ( arp and len = 1 or arp and len = 2 )", 5, 4);
            blocks("ip or not ip or len = 1 or len = 2", 4, 3);
        });
        test("none is left out of a FILTER of one BLOCK", y -> blocks("ip", 1, 0));
    }

    private static void numbersOfInstructions() {
        test("8: 0 if there is none", x -> {
            due("instruction(0)", x.instruction(0), 0);
            compile(x, "ip");
            due("instruction(0)", x.instruction(0), instruction(LENGTH));
            due("instruction(6)", x.instruction(6), 149);
            due("instruction(7)", x.instruction(7), 0);
            due("instruction(-1)", x.instruction(-1), 0);
            due("instruction(4000)", x.instruction(4000), 0);
            due("instruction(least)", x.instruction(Integer.MIN_VALUE), 0);
            due("instruction(greatest)", x.instruction(Integer.MAX_VALUE), 0);
        });
        test("8: 0 if there is none: of a shorter PROGRAM behind a longer one", x -> {
            compile(x, "port 1");
            compile(x, "ip");
            due("instruction(7)", x.instruction(7), 0);
            load(x, END);
            due("instruction(0)", x.instruction(0), 149);
            due("instruction(1)", x.instruction(1), 0);
        });
        test("8: its first byte lowest", x -> {
            tape(x, 0xb7, 0x21, 0x03, 0x84, 0x05, 0x06, 0x07, 0x88);
            due("load()", x.load(), 1);
            due("instruction(0)", x.instruction(0), 0x88070605840321b7L);
        });
    }

    public static void main(String[] args) {
        values();
        accesses();
        primitives();
        ways();
        decided();
        numbersOfInstructions();
        finish("EdgeCodeTest");
    }
}
