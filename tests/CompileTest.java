/** compile(): where a text is WRONG, what it becomes, its BLOCKS (promises 6, 8, 19, 20). */
public final class CompileTest {
    private static int wrong = 0;

    private static void due(String call, long got, long want) {
        if (got != want) {
            wrong++;
            System.out.println(call + " answered " + got + ", due is " + want);
        }
    }

    private static void feed(FilterForge x, String text) {
        for (int i = 0; i < text.length(); i += 20) {
            int[] five = new int[5];
            for (int k = 0; k < 20; k++) {
                five[k / 4] = five[k / 4] << 8 | (i + k < text.length() ? text.charAt(i + k) : 0);
            }
            x.feed(five[0], five[1], five[2], five[3], five[4]);
        }
        x.end(text.length());
    }

    private static int compile(FilterForge x, String text) {
        feed(x, text);
        int answer = x.compile();
        due("the tape behind compile", x.count(3), 0);
        return answer;
    }

    /** WRONG at the place of the @, which is not part of the text. */
    private static void wrongAt(String marked) {
        int place = marked.indexOf('@');
        String text = marked.substring(0, place) + marked.substring(place + 1);
        due("compile of " + text, compile(new FilterForge(), text), -1 - place);
    }

    private static void good(String text) {
        int answer = compile(new FilterForge(), text);
        due("compile of " + text, answer > 0 ? 1 : answer, 1);
    }

    /** Each row: CODE (16), D, S (16), OFF, K. */
    private static void becomes(String text, int blocks, int leftOut, String... rows) {
        FilterForge x = new FilterForge();
        due("compile of " + text, compile(x, text), rows.length);
        due("count(1) of " + text, x.count(1), rows.length);
        due("blocks of " + text, x.count(4), blocks);
        due("left out of " + text, x.count(5), leftOut);
        for (int i = 0; i < rows.length; i++) {
            String[] p = rows[i].split(" ");
            long code = Long.parseLong(p[0], 16) | Long.parseLong(p[1], 16) << 8 | Long.parseLong(p[2], 16) << 12
                | (Long.parseLong(p[3]) & 0xFFFF) << 16 | Long.parseLong(p[4]) << 32;
            due("instruction " + i + " of " + text, x.instruction(i), code);
        }
        due("behind the last of " + text, x.instruction(rows.length), 0);
        due("ahead of the first of " + text, x.instruction(-1), 0);
    }

    private static String times(String part, int n) {
        return part.repeat(n);
    }

    private static void words() {
        wrongAt("@");
        wrongAt("  \n @");
        wrongAt("ip and@");
        wrongAt("ip and @");
        wrongAt("ip or \n @");
        wrongAt("@Ip");
        wrongAt("ip@_");
        wrongAt("ip @! ip");
        wrongAt("@\tip");
        wrongAt("ip @ip");
        wrongAt("@ipx");
        wrongAt("@ipz");
        wrongAt("ip and @xp");
        wrongAt("@0p");
        wrongAt("@zip");
        wrongAt("@1.2.3.4");
        wrongAt("@and");
        wrongAt("@)");
        wrongAt("( ip@");
        wrongAt("( ip @]");
        wrongAt("ip @)");
        wrongAt("ip or @or");
        wrongAt("not@");
        wrongAt("len @!");
        wrongAt("len @and 1");
        wrongAt("len @");
        wrongAt("len = @");
        wrongAt("len = 1 @= 1");
        wrongAt("len < @= 1");
        wrongAt("len <<@= 1");
        good("len<=1");
        good("len<<1=1");
        good("len>>1>=1");
        good("len!=1");
        good("len = 1\nor\nip");
    }

    private static void numbers() {
        good("len = 4294967295");
        good("len = 00000000000000000004294967295");
        wrongAt("len = @4294967296");
        wrongAt("len = @99999999999999999999999");
        good("len = 0xffffffff");
        wrongAt("len = @0xfffffffff");
        wrongAt("len = @0x");
        wrongAt("len = @0xg");
        wrongAt("len = 0@X1");
        wrongAt("len = @1a");
        wrongAt("len = @1.");
        wrongAt("@4294967296 = 1");
        good("0x10 = len");
        good("ether proto 65535");
        wrongAt("ether proto @65536");
        wrongAt("ether @ip");
        wrongAt("ether@");
        wrongAt("ether @and");
        wrongAt("ether proto@");
        good("ip proto 255");
        good("ip proto 0xff");
        wrongAt("ip proto @256");
        wrongAt("ip6 @proto 1");
        wrongAt("tcp @proto 1");
        wrongAt("ip proto @tcp");
    }

    private static void addresses() {
        good("host 0.0.0.0");
        good("src host 255.255.255.255");
        good("dst host 001.2.3.4");
        wrongAt("host @256.1.1.1");
        wrongAt("host @1.2.3");
        wrongAt("host @1.2.3.4.5");
        wrongAt("host @1..3.4");
        wrongAt("host @.1.2.3");
        wrongAt("host @1.2.3.");
        wrongAt("host @0x1.2.3.4");
        wrongAt("host 1.2.3.4 @.5");
        wrongAt("host 1.2.3@ .4".replace("3@ .4", "3.4 @. ip"));
        wrongAt("host @16909060");
        good("net 10.0.0.0/8");
        good("net 10.0.0.0 / 32");
        good("net 0.0.0.0/0");
        wrongAt("net 10.0.0.0/@33");
        wrongAt("net 10.0.0.1/@31");
        wrongAt("net 128.0.0.0/@0");
        wrongAt("net 10.0.0.0@");
        wrongAt("net 10.0.0.0 @8");
        wrongAt("net 10.0.0.0/@8.0");
        wrongAt("src @tcp");
        wrongAt("src @src host 1.2.3.4");
        wrongAt("src @less 5");
        wrongAt("dst @greater 5");
        wrongAt("dst@");
        good("port 65535");
        wrongAt("port @65536");
        good("src portrange 5-5");
        wrongAt("portrange 6-@5");
        wrongAt("portrange 6-@65536");
        wrongAt("portrange @65536-65537");
        wrongAt("portrange 6@");
        wrongAt("portrange 6 @7");
        good("less 4294967295");
        wrongAt("greater @4294967296");
        wrongAt("less@");
    }

    private static void sums() {
        wrongAt("len + @= 1");
        wrongAt("{ len @= 1");
        wrongAt("{ len } @and");
        wrongAt("ether[@] = 1");
        wrongAt("ether[0@ = 1".replace("0@ =", "0 @="));
        good("ether[0:1] = 1");
        good("ether[0:02] = 1");
        good("ether[0:0x4] = 1");
        wrongAt("ether[0:@3] = 1");
        wrongAt("ether[0:@0] = 1");
        wrongAt("ether[0:@8] = 1");
        wrongAt("ether[0:@len] = 1");
        wrongAt("1 + @proto = 1");
        wrongAt("len = ip @and ip");
        wrongAt("len = ip@");
        good("- - - - - - - - len = 1");
        wrongAt("- - - - - - - - @- len = 1");
        wrongAt("len - - - - - - - - - @- len = 1");
        good("len - - - - - - - - - len = 1");
        good("{ { len } } = 1");
        wrongAt("{ { @{ len } } } = 1");
        good("ether[ ether[ 1 ] ] = 1");
        wrongAt("ether[ ether[ @{ 1 } ] ] = 1");
        wrongAt("ether[ { ether@[ 1 ] } ] = 1");
        wrongAt("{ ether[ ip@[ 1 ] ] } = 1");
        good("{ len } + { { len } } + ether[ { 1 } ] = { { 1 } }");
    }

    private static void depths() {
        good(times("not ", 20) + "ip");
        wrongAt(times("not ", 20) + "@not ip");
        good(times("( ", 20) + "ip" + times(" )", 20));
        wrongAt(times("(", 20) + "@(ip" + times(")", 21));
        wrongAt(times("not(", 10) + "@not ip" + times(")", 10));
        good(times("not(", 10) + "ip" + times(")", 10) + " and " + times("not ", 20) + "arp");
        good("( " + times("not ", 19) + "ip and " + times("not ", 19) + "ip )");
        wrongAt("( " + times("not ", 19) + "ip and " + times("not ", 19) + "@( ip ) )");
    }

    private static final String LENGTH = "bf 6 1 0 0";

    private static void codes() {
        becomes("ip", 1, 0, LENGTH, "28 0 0 0 12", "56 0 0 2 2048", "b4 0 0 0 1", "95 0 0 0 0", "b4 0 0 0 0", "95 0 0 0 0");
        becomes("not ip", 1, 0, LENGTH, "28 0 0 0 12", "16 0 0 2 2048", "b4 0 0 0 1", "95 0 0 0 0", "b4 0 0 0 0", "95 0 0 0 0");
        becomes("len/0=1", 1, 0, LENGTH, "bc 0 6 0 0", "5 0 0 3 0", "56 0 0 2 1",
            "b4 0 0 0 1", "95 0 0 0 0", "b4 0 0 0 0", "95 0 0 0 0");
        becomes("len % {0} < 4294967295", 1, 0, LENGTH, "bc 0 6 0 0", "7b a 0 -8 0", "b4 0 0 0 0", "bc 7 0 0 0", "79 0 a -8 0",
            "16 7 0 4 0", "9c 0 7 0 0", "36 0 0 2 -1", "b4 0 0 0 1", "95 0 0 0 0", "b4 0 0 0 0", "95 0 0 0 0");
        becomes("tcp[len+1:2] > {3}", 4, 0, LENGTH, "28 0 0 0 12", "56 0 0 21 2048", "30 0 0 0 23", "56 0 0 19 6",
            "28 0 0 0 20", "54 0 0 0 8191", "56 0 0 16 0", "bc 0 6 0 0", "4 0 0 0 1", "7b a 0 -8 0", "30 0 0 0 14",
            "54 0 0 0 15", "64 0 0 0 2", "79 7 a -8 0", "c 0 7 0 0", "48 0 0 0 14", "7b a 0 -8 0", "b4 0 0 0 3", "bc 7 0 0 0",
            "79 0 a -8 0", "be 0 7 2 0", "b4 0 0 0 1", "95 0 0 0 0", "b4 0 0 0 0", "95 0 0 0 0");
        becomes("ether[len:4]-len*2=-5", 1, 0, LENGTH, "bc 0 6 0 0", "40 0 0 0 0", "7b a 0 -8 0", "bc 0 6 0 0", "24 0 0 0 2",
            "bc 7 0 0 0", "79 0 a -8 0", "1c 0 7 0 0", "7b a 0 -8 0", "b4 0 0 0 5", "84 0 0 0 0", "bc 7 0 0 0", "79 0 a -8 0",
            "5e 0 7 2 0", "b4 0 0 0 1", "95 0 0 0 0", "b4 0 0 0 0", "95 0 0 0 0");
        becomes("ip[4294967295] | 1 ^ 2 & 3 << 4 >= 5", 2, 0, LENGTH, "28 0 0 0 12", "56 0 0 12 2048", "30 0 0 0 13",
            "44 0 0 0 1", "7b a 0 -8 0", "b4 0 0 0 2", "54 0 0 0 3", "64 0 0 0 4", "bc 7 0 0 0", "79 0 a -8 0",
            "ac 0 7 0 0", "a6 0 0 2 5", "b4 0 0 0 1", "95 0 0 0 0", "b4 0 0 0 0", "95 0 0 0 0");
    }

    private static void primitives() {
        String[] end = {"b4 0 0 0 1", "95 0 0 0 0", "b4 0 0 0 0", "95 0 0 0 0"};
        becomes("udp", 4, 0, LENGTH, "28 0 0 0 12", "56 0 0 2 2048", "30 0 0 0 23", "16 0 0 4 17",
            "28 0 0 0 12", "56 0 0 4 34525", "30 0 0 0 20", "56 0 0 2 17", end[0], end[1], end[2], end[3]);
        becomes("icmp", 2, 0, LENGTH, "28 0 0 0 12", "56 0 0 4 2048", "30 0 0 0 23", "56 0 0 2 1", end[0], end[1], end[2], end[3]);
        becomes("ip proto 7", 2, 0, LENGTH, "28 0 0 0 12", "56 0 0 4 2048", "30 0 0 0 23", "56 0 0 2 7", end[0], end[1], end[2], end[3]);
        becomes("host 1.2.3.4", 3, 0, LENGTH, "28 0 0 0 12", "56 0 0 6 2048", "20 0 0 0 26", "16 0 0 2 16909060",
            "20 0 0 0 30", "56 0 0 2 16909060", end[0], end[1], end[2], end[3]);
        becomes("dst net 240.0.0.0/4", 2, 0, LENGTH, "28 0 0 0 12", "56 0 0 5 2048", "20 0 0 0 30", "54 0 0 0 -268435456",
            "56 0 0 2 -268435456", end[0], end[1], end[2], end[3]);
        becomes("src net 0.0.0.0/0", 2, 0, LENGTH, "28 0 0 0 12", "56 0 0 5 2048", "20 0 0 0 26", "54 0 0 0 0",
            "56 0 0 2 0", end[0], end[1], end[2], end[3]);
        becomes("less 60 or greater 1000", 2, 0, LENGTH, "bc 0 6 0 0", "b6 0 0 2 60", "bc 0 6 0 0", "a6 0 0 2 1000",
            end[0], end[1], end[2], end[3]);
    }

    private static void ports() {
        becomes("src portrange 5-9", 11, 0, LENGTH, "28 0 0 0 12", "56 0 0 17 2048", "30 0 0 0 23", "16 0 0 2 6",
            "30 0 0 0 23", "56 0 0 13 17", "28 0 0 0 20", "54 0 0 0 8191", "56 0 0 10 0",
            "30 0 0 0 14", "54 0 0 0 15", "64 0 0 0 2", "48 0 0 0 14", "a6 0 0 5 5",
            "30 0 0 0 14", "54 0 0 0 15", "64 0 0 0 2", "48 0 0 0 14", "b6 0 0 10 9",
            "28 0 0 0 12", "56 0 0 10 34525", "30 0 0 0 20", "16 0 0 2 6", "30 0 0 0 20", "56 0 0 6 17",
            "28 0 0 0 54", "a6 0 0 4 5", "28 0 0 0 54", "26 0 0 2 9",
            "b4 0 0 0 1", "95 0 0 0 0", "b4 0 0 0 0", "95 0 0 0 0");
        becomes("src portrange 0-0 and ip6", 12, 0, LENGTH, "28 0 0 0 12", "56 0 0 17 2048", "30 0 0 0 23", "16 0 0 2 6",
            "30 0 0 0 23", "56 0 0 13 17", "28 0 0 0 20", "54 0 0 0 8191", "56 0 0 10 0",
            "30 0 0 0 14", "54 0 0 0 15", "64 0 0 0 2", "48 0 0 0 14", "a6 0 0 5 0",
            "30 0 0 0 14", "54 0 0 0 15", "64 0 0 0 2", "48 0 0 0 14", "b6 0 0 10 0",
            "28 0 0 0 12", "56 0 0 12 34525", "30 0 0 0 20", "16 0 0 2 6", "30 0 0 0 20", "56 0 0 8 17",
            "28 0 0 0 54", "a6 0 0 6 0", "28 0 0 0 54", "26 0 0 4 0",
            "28 0 0 0 12", "56 0 0 2 34525",
            "b4 0 0 0 1", "95 0 0 0 0", "b4 0 0 0 0", "95 0 0 0 0");
        becomes("dst port 80", 9, 0, LENGTH, "28 0 0 0 12", "56 0 0 12 2048", "30 0 0 0 23", "16 0 0 2 6",
            "30 0 0 0 23", "56 0 0 8 17", "28 0 0 0 20", "54 0 0 0 8191", "56 0 0 5 0",
            "30 0 0 0 14", "54 0 0 0 15", "64 0 0 0 2", "48 0 0 0 16", "16 0 0 8 80",
            "28 0 0 0 12", "56 0 0 8 34525", "30 0 0 0 20", "16 0 0 2 6", "30 0 0 0 20", "56 0 0 4 17",
            "28 0 0 0 56", "56 0 0 2 80",
            "b4 0 0 0 1", "95 0 0 0 0", "b4 0 0 0 0", "95 0 0 0 0");
    }

    private static void decided() {
        String[] end = {"b4 0 0 0 1", "95 0 0 0 0", "b4 0 0 0 0", "95 0 0 0 0"};
        becomes("ip or ip", 2, 1, LENGTH, "28 0 0 0 12", "56 0 0 2 2048", end[0], end[1], end[2], end[3]);
        becomes("ip and arp", 2, 1, LENGTH, "28 0 0 0 12", "5 0 0 2 0", end[0], end[1], end[2], end[3]);
        becomes("ip or not ip", 2, 1, LENGTH, "28 0 0 0 12", end[0], end[1], end[2], end[3]);
        becomes("{ether[12:2]} = 2048 and ip", 2, 1, LENGTH, "28 0 0 0 12", "56 0 0 2 2048", end[0], end[1], end[2], end[3]);
        becomes("ip and ether[{12}:2] = {{2048}}", 2, 1, LENGTH, "28 0 0 0 12", "56 0 0 2 2048", end[0], end[1], end[2], end[3]);
        becomes("ether[{12}:2] = {{2048}} and ip", 2, 1, LENGTH, "b4 0 0 0 12", "48 0 0 0 0", "7b a 0 -8 0", "b4 0 0 0 2048",
            "bc 7 0 0 0", "79 0 a -8 0", "5e 0 7 2 0", end[0], end[1], end[2], end[3]);
        becomes("ether[{12}:2] = {{2048}} and arp", 2, 1, LENGTH, "b4 0 0 0 12", "48 0 0 0 0", "7b a 0 -8 0", "b4 0 0 0 2048",
            "bc 7 0 0 0", "79 0 a -8 0", "5 0 0 2 0", end[0], end[1], end[2], end[3]);
        // Another size, another sign, or a side that is no number decide nothing.
        due("other size", blocksLeftOut("ip and ether[12] = 8"), 0);
        due("other sign", blocksLeftOut("ip and ether[12:2] != 2048"), 0);
        due("turned", blocksLeftOut("ip and 2048 = ether[12:2]"), 0);
        due("at len", blocksLeftOut("ether[len] = 5 or ether[len] = 5"), 0);
        due("masked", blocksLeftOut("ether[0] & 1 = 0 or ether[0] & 1 = 0"), 0);
        due("0 less", blocksLeftOut("- ether[0] = 1 or - ether[0] = 1"), 0);
        due("of tcp", blocksLeftOut("tcp[0] = 1 and tcp[0] = 1"), 0);
        due("in another", blocksLeftOut("ether[ether[0]] = 1 or ether[ether[0]] = 1"), 0);
        due("sum", blocksLeftOut("ip and ether[12+0:2] = 2048"), 0);
        due("minus", blocksLeftOut("ether[12:2] = -1 and ether[12:2] = -1"), 0);
        due("cut place", blocksLeftOut("ip and ip[4294967294:2] = 2048 or ip and ip[{4294967294}:2] = 2048"), 5);
        due("not by the NO way, if unlike", blocksLeftOut("ip or arp"), 0);
        due("tcp or udp", blocksLeftOut("tcp or udp"), 0);
        due("tcp and udp", blocksLeftOut("tcp and udp"), blocksLeftOut("udp and tcp"));
    }

    private static int blocksLeftOut(String text) {
        FilterForge x = new FilterForge();
        compile(x, text);
        return x.count(5);
    }

    private static void tooLong() {
        FilterForge x = new FilterForge();
        due("arp", compile(x, "arp"), 7);
        due("matches of no packet", x.matches(), 0);
        String many = "port 1";
        StringBuilder text = new StringBuilder(many);
        while (text.length() + 10 <= 2000) {
            text.append(" or ").append("port ").append(text.length() % 10);
        }
        due("too many", compile(x, text.toString()), -3000);
        due("length stays", x.count(1), 7);
        due("blocks stay", x.count(4), 1);
        due("instruction stays", x.instruction(2), 0x56L | 2 << 16 | 2054L << 32);
        text.append(text.length() < 1998 ? " )" : ")");
        int place = text.length() - 1;
        due("WRONG counts ahead", compile(x, text.toString()), -1 - place);
        due("still there", x.count(1), 7);
        due("a WRONG one", compile(x, "ip and"), -7);
        due("still there", x.count(1), 7);
        due("and its blocks", x.count(4), 1);
    }

    private static void formerStays() {
        FilterForge x = new FilterForge();
        due("WRONG", compile(x, "ip ip"), -4);
        due("no filter", x.matches(), -1);
        due("no blocks", x.count(4), 0);
        int[] type = {0, 0, 0, 0x08060000};
        x.feed(type[0], type[1], type[2], type[3], 0);
        x.end(14);
        x.packet();
        x.feed(0, 0, 0, 0x08000000, 0);
        x.end(14);
        x.packet();
        x.feed(0, 0, 0, 0x08000000, 0);
        x.end(13);
        x.packet();
        compile(x, "arp");
        due("matches", x.matches(), 1);
        compile(x, "arp arp");
        due("matches still", x.matches(), 1);
        compile(x, "not arp");
        due("matches of the other", x.matches(), 2);
        x.feed(0x95000000, 0, 0, 0, 0);
        x.end(8);
        due("load", x.load(), 1);
        due("matches of the filter", x.matches(), 2);
        due("count(4)", x.count(4), 1);
    }

    /** The bits of matches(), of a packet of 3 bytes, one of 38 (tcp, no bytes ahead of its body), and one more. */
    private static void matched(String text, int bits) {
        FilterForge x = new FilterForge();
        due("compile of " + text, compile(x, text) > 0 ? 1 : 0, 1);
        due("matches of " + text + ", no packets", x.matches(), 0);
        feed(x, "abc");
        x.packet();
        feed(x, "abcdefabcdef" + (char) 8 + (char) 0 + (char) 0 + "bbbbb" + (char) 0 + (char) 0 + "b" + (char) 6
            + "bbbbbbbbbbbbbb");
        x.packet();
        x.packet();
        due("matches of " + text, x.matches(), bits);
        int ran = 0;
        for (int p = 0; p < 3; p++) {
            ran |= (int) x.run(p) << p;
        }
        due("run of " + text, ran, bits);
    }

    private static void matching() {
        matched("1 = 1", 7);
        matched("not 1 = 1", 0);
        matched("len = 3", 1);
        matched("not len = 3", 6);
        matched("ether[0] = 97", 3);
        matched("not ether[0] = 97", 0);
        matched("not ether[2:2] = 1", 2);
        matched("ether[37] = 98", 2);
        matched("ether[34:4] > 98", 2);
        matched("ether[35:4] > 98", 0);
        matched("ether[4294967295] = 1 or 1 = 1", 0);
        matched("1 = 1 or ether[4294967295] = 1", 7);
        matched("tcp[0] = 0", 2);
        matched("tcp[4] = 98", 2);
        matched("udp[0] = 0 or len = 3", 0);
        matched("arp or len = 3", 0);
        matched("len = 3 or tcp[4] = 98", 3);
        matched("len / 0 = 0", 0);
        matched("not len / 0 = 0", 0);
        matched("len % 0 = len", 0);
        matched("len / {0} = 0 or 1 = 1", 0);
        matched("not len % {0} = 9", 0);
        matched("1 = 1 or len / 0 = 0", 7);
        matched("len / 1 = len", 7);
        matched("len % {1} = 0", 7);
        matched("5 / len < 6", 3);
        matched("5 % len < 6", 3);
        matched("2 - 3 = 4294967295", 7);
        matched("- 1 > 1", 7);
        matched("1 << 33 = 2", 7);
        matched("65536 * 65536 = 0", 7);
        matched("4294967295 + 2 >> 1 = 2147483649", 0);
        matched("{ 4294967295 + 2 } >> 1 = 0", 7);
        matched("ether[len - 1] = 99", 1);
        matched("ip[4294967282] = 97", 2);
        matched("ip[{4294967282}] = 97", 2);
    }

    public static void main(String[] args) {
        matching();
        words();
        numbers();
        addresses();
        sums();
        depths();
        codes();
        primitives();
        ports();
        decided();
        tooLong();
        formerStays();
        System.exit(wrong == 0 ? 0 : 1);
    }
}
