/** The edges of what a FILTER is, and of where it is WRONG (promise 6; Terms 1, WORDS to WRONG). */
public final class EdgeWordsTest extends Edge {
    /** WRONG at the place of the first @, which is not part of the text. */
    private static void wrongAt(String marked) {
        int place = marked.indexOf('@');
        String text = marked.substring(0, place) + marked.substring(place + 1);
        due("compile of " + text, compile(new FilterForge(), text), -1 - place);
    }

    private static void good(String text) {
        int answer = compile(new FilterForge(), text);
        due("compile of " + text, answer > 0 ? 1 : answer, 1);
    }

    /** Two texts become the same PROGRAM. */
    private static void same(String text, String other) {
        FilterForge x = new FilterForge();
        FilterForge y = new FilterForge();
        int length = compile(x, text);
        due("compile of " + text, length > 0 ? 1 : length, 1);
        due("compile of " + other, compile(y, other), length);
        for (int i = 0; i < length; i++) {
            due("instruction " + i + " of " + other, y.instruction(i), x.instruction(i));
        }
    }

    private static String times(int n, String part) {
        return part.repeat(n);
    }

    private static void places() {
        test("6: -1 less the place where it is WRONG: place 0", x -> wrongAt("@and"));
        test("6: an empty TAPE is WRONG at its length, 0", x -> {
            due("compile()", x.compile(), -1);
            wrongAt("@");
        });
        test("6: the TAPE's length, if one lacks: behind blanks", x -> {
            wrongAt("   @");
            wrongAt("ip and  \n@");
            wrongAt("ip or@");
            wrongAt("not@");
            wrongAt("( ip@");
            wrongAt("len@");
            wrongAt("len =@");
            wrongAt("len +@");
            wrongAt("{ len@");
            wrongAt("ether[ 0@");
            wrongAt("ether[ 0 :@");
            wrongAt("host@");
            wrongAt("net 1.0.0.0@");
            wrongAt("net 1.0.0.0 /@");
            wrongAt("src@");
            wrongAt("port@");
            wrongAt("portrange 1@");
            wrongAt("portrange 1 -@");
            wrongAt("ether proto@");
            wrongAt("ip proto@");
            wrongAt("less@");
            wrongAt("1 = ip@");
        });
        test("6: the TAPE's length, if one lacks: a TAPE of 2000", x -> {
            wrongAt("ip and" + times(1994, " ") + "@");
            good(times(1998, " ") + "ip");
            wrongAt("len = " + times(1993, " ") + "@=");
        });
        test("6: the first byte of a word that can't stand there, not of a part of it", x -> {
            wrongAt("@ipip");
            wrongAt("ip @tcp6");
            wrongAt("ip and @source host 1.2.3.4");
            wrongAt("len = @12x4");
        });
        test("6: at the first place, if there are more", x -> {
            wrongAt("len = @4294967296 = = )");
            wrongAt("( ip @host 1.2.3 ! ");
            wrongAt("host @1.2.3 !");
        });
        test("6: a byte that begins no word", x -> {
            for (int sign = 0; sign < 256; sign++) {
                boolean blank = sign == 32 || sign == 10;
                boolean inWord = sign >= 'a' && sign <= 'z' || sign >= '0' && sign <= '9' || sign == '.';
                boolean begins = "(){}[]:/-+*%&|^<>=".indexOf(sign) >= 0;
                if (!blank && !inWord && !begins) {
                    due("compile of " + sign, compile(new FilterForge(), "" + (char) sign), -1);
                    due("compile of len and " + sign, compile(new FilterForge(), "len" + (char) sign), -4);
                    due("compile of arp and " + sign, compile(new FilterForge(), "arp" + (char) sign), -4);
                }
            }
        });
        test("6: a byte that begins no word, of those beside the letters and the digits", x -> {
            wrongAt("ip @`");
            wrongAt("ip @A");
            wrongAt("ip @Z");
            wrongAt("ip @\t");
            wrongAt("ip @\r\n");
            wrongAt("ip @" + (char) 0);
            wrongAt("ip @" + (char) 160);
            wrongAt("ip @" + (char) 255);
            wrongAt("ip @\"");
            wrongAt("ip @;");
            wrongAt("len @!");
            wrongAt("len @! = 1");
            wrongAt("len @~ 1");
        });
        test("6: a byte that begins no word is WRONG there, not the word ahead of it", x -> wrongAt("len = 0@X1"));
        test("6: a FILTER of one byte more than a word can stand", x -> wrongAt("ip @."));
        test("6: behind a FILTER there is nothing", x -> {
            wrongAt("ip @)");
            wrongAt("ip @ip");
            wrongAt("( ip ) @)");
            wrongAt("len = 1 @= 1");
            wrongAt("len = 1 @2");
            wrongAt("not ip @not arp");
        });
    }

    private static void words() {
        test("Blanks and bytes 10 stand between words as one likes: none, where words end of themselves", x -> {
            same("not ( ip ) and len <= 4 + { 2 } * ip [ 1 : 2 ]", "not(ip)and len<=4+{2}*ip[1:2]");
            same("src net 10.0.0.0 / 8", "src net 10.0.0.0/8");
            same("portrange 1 - 2", "portrange 1-2");
        });
        test("Blanks and bytes 10 stand between words as one likes: many, at both ends", x -> {
            same("ip or arp", " \n \n\n ip\nor\n \n arp  \n");
            same("ip [ 0 ] = 1", "ip\n \n[0]=1\n");
        });
        test("Words are rows of letters, digits and dots: they end only at others", x -> {
            wrongAt("@ip.");
            wrongAt("@ip1");
            wrongAt("@notip");
            wrongAt("not@");
            wrongAt("@port80");
            wrongAt("@len1 = 1");
            wrongAt("@.");
            wrongAt("len = @1.0");
        });
        test("Words are rows of letters a .. z, digits 0 .. 9 and dots", x -> {
            for (char more : "az09.bym18".toCharArray()) {
                wrongAt("@ip" + more + "x");
                wrongAt("@arp" + more);
                wrongAt("ip and @" + more + "ip");
            }
        });
        test("a word that is not quite one of the names can't stand there", x -> {
            String[] names = {"ip", "ip6", "arp", "tcp", "udp", "icmp", "not", "src", "dst", "host", "net", "port", "portrange",
                "less", "greater", "ether", "len"};
            for (String name : names) {
                for (int i = 0; i < name.length(); i++) {
                    wrongAt("@" + name.substring(0, i) + "q" + name.substring(i + 1) + " ip");
                    wrongAt("@" + name.substring(0, i) + "q" + name.substring(i) + " ip");
                }
                wrongAt("@" + name + "q ip");
                wrongAt("@q" + name + " ip");
                wrongAt("len = @" + name + "q");
            }
            wrongAt("ip @an ip");
            wrongAt("ip @amd ip");
            wrongAt("ip @andd ip");
            wrongAt("ip @o ip");
            wrongAt("ip @oq ip");
            wrongAt("ip @orr ip");
            wrongAt("ether @prot 1");
            wrongAt("ether @protq 1");
            wrongAt("ip @protoo 1");
            wrongAt("src @hos 1.2.3.4");
            wrongAt("dst @por 1");
        });
        test("the longer one counts: <= and < =", x -> {
            good("len <= 1");
            wrongAt("len < @= 1");
        });
        test("the longer one counts: >= and > =", x -> {
            good("len >= 1");
            wrongAt("len > @= 1");
        });
        test("the longer one counts: != and ! =", x -> {
            good("len != 1");
            wrongAt("len @! = 1");
        });
        test("the longer one counts: << and < <", x -> {
            good("len << 1 = 1");
            wrongAt("len < @< 1 = 1");
            wrongAt("len << @= 1");
            wrongAt("len <<@<= 1");
            wrongAt("len <<@< 1 = 1");
        });
        test("the longer one counts: >> and > >", x -> {
            good("len >> 1 = 1");
            wrongAt("len > @> 1 = 1");
            wrongAt("len >> @= 1");
            wrongAt("len >>@>= 1");
            wrongAt("len <@> 1");
            wrongAt("len =@= 1");
            wrongAt("len =@> 1");
            wrongAt("len >=@= 1");
        });
        test("the longer one counts: < and - are two", x -> {
            same("len < - 1", "len<-1");
            wrongAt("len - @< 1");
        });
    }

    private static void numbers() {
        test("N: digits, at most 4294967295", x -> {
            same("len = 0xffffffff", "len = 4294967295");
            wrongAt("len = @4294967296");
            wrongAt("len = @4294967305");
            wrongAt("len = @5000000000");
            wrongAt("len = @18446744073709551616");
            wrongAt("len = @18446744073709551617");
            wrongAt("len = @99999999999999999999999999999999999999");
        });
        test("N: 0, and zeros ahead of it", x -> {
            same("len = 0", "len = 000000000000000000000000000");
            same("len = 8", "len = 00000000000000000000000008");
        });
        test("N: 0x and 1 to 8 digits", x -> {
            wrongAt("len = @0x");
            same("len = 1", "len = 0x1");
            same("len = 1", "len = 0x00000001");
            wrongAt("len = @0x000000001");
            wrongAt("len = @0x100000000");
        });
        test("N: digits 0 .. 9, a .. f", x -> {
            same("len = 305441741", "len = 0x1234abcd");
            same("len = 2583", "len = 0xa17");
            same("len = 15", "len = 0xf");
            wrongAt("len = @0xg");
            wrongAt("len = @0x1g");
            wrongAt("len = @0x.1");
            wrongAt("len = @00x1");
            wrongAt("len = @x1");
            wrongAt("len = 0@X1");
        });
        test("N: no letters without 0x, no dots", x -> {
            wrongAt("len = @a");
            wrongAt("len = @1a");
            wrongAt("len = @f");
            wrongAt("len = @1.2.3.4");
            wrongAt("len = @.1");
        });
        test("N: at the left side, too", x -> {
            good("4294967295 = len");
            wrongAt("@4294967296 = len");
            wrongAt("@0x = len");
        });
    }

    private static void addresses() {
        test("A: four N, 0 to 255", x -> {
            good("host 0.0.0.0");
            good("host 255.255.255.255");
            wrongAt("host @256.0.0.0");
            wrongAt("host @0.256.0.0");
            wrongAt("host @0.0.256.0");
            wrongAt("host @0.0.0.256");
            wrongAt("host @0.0.0.4294967297");
        });
        test("A: neither three nor five", x -> {
            wrongAt("host @1.2.3");
            wrongAt("host @1.2.3.4.5");
            wrongAt("host @1");
            wrongAt("host @1.2.3.4.");
            wrongAt("host @.1.2.3.4");
            wrongAt("host @1.2..4");
            wrongAt("host @1.2.3.");
            wrongAt("host @.1.2.3");
            wrongAt("host @...");
        });
        test("A: without 0x", x -> {
            wrongAt("host @0x1.2.3.4");
            wrongAt("host @1.2.3.0x4");
            wrongAt("host @1.2.3.a");
        });
        test("A: N may have zeros ahead", x -> same("host 1.2.3.255", "host 01.002.0003.0000000255"));
        test("A: one word", x -> {
            wrongAt("host @1.2 .3.4");
            wrongAt("host @1. 2.3.4");
            wrongAt("host 1.2.3.4 @.5");
        });
        test("net: N to 32", x -> {
            good("net 1.2.3.4/32");
            wrongAt("net 1.2.3.4/@33");
            wrongAt("net 0.0.0.0/@33");
            wrongAt("net 0.0.0.0/@64");
            wrongAt("net 0.0.0.0/@4294967295");
            wrongAt("net 0.0.0.0/@4294967296");
            wrongAt("net 0.0.0.0/@1.2");
            wrongAt("net 0.0.0.0/@len");
        });
        test("net: N may be 0", x -> good("net 0.0.0.0/0"));
        test("net: all lower bits of A are 0, or it is WRONG at its N", x -> {
            for (int n = 0; n < 32; n++) {
                long bit = 1L << (31 - n);
                String a = (bit >> 24) + "." + (bit >> 16 & 255) + "." + (bit >> 8 & 255) + "." + (bit & 255);
                wrongAt("net " + a + " / @" + n);
                good("net " + a + " / " + (n + 1));
            }
        });
        test("net: A ahead of N", x -> wrongAt("net @1.2.3/33"));
        test("host has no / N", x -> wrongAt("host 1.2.3.4 @/ 32"));
        test("net has one", x -> wrongAt("net 1.2.3.4 @or ip"));
    }

    private static void primitives() {
        test("ether proto N to 65535", x -> {
            good("ether proto 0");
            good("ether proto 65535");
            good("ether proto 0xffff");
            wrongAt("ether proto @65536");
            wrongAt("ether proto @ip");
        });
        test("ip proto N to 255", x -> {
            good("ip proto 0");
            good("ip proto 255");
            wrongAt("ip proto @256");
            wrongAt("ip proto @tcp");
        });
        test("port N to 65535", x -> {
            good("port 0");
            good("port 65535");
            wrongAt("port @65536");
            wrongAt("src port @65536");
            wrongAt("dst port @65536");
        });
        test("portrange N - N to 65535", x -> {
            good("portrange 0 - 65535");
            wrongAt("portrange @65536 - 65537");
            wrongAt("portrange 1 - @65536");
        });
        test("portrange: the second not below the first", x -> {
            good("portrange 7 - 7");
            good("portrange 65535 - 65535");
            good("portrange 0 - 0");
            wrongAt("portrange 7 - @6");
            wrongAt("portrange 65535 - @0");
            wrongAt("dst portrange 7 @7");
        });
        test("less N, greater N", x -> {
            good("less 0");
            good("less 4294967295");
            good("greater 4294967295");
            wrongAt("less @4294967296");
            wrongAt("greater @4294967296");
            wrongAt("less @len");
        });
        test("perhaps src or dst, then: host, net, port, portrange", x -> {
            for (String side : new String[] {"", "src ", "dst "}) {
                good(side + "host 1.2.3.4");
                good(side + "net 1.2.3.4/32");
                good(side + "port 1");
                good(side + "portrange 1-2");
            }
            wrongAt("src @ip");
            wrongAt("src @ether proto 1");
            wrongAt("src @dst port 1");
            wrongAt("dst @dst port 1");
            wrongAt("src @or dst port 1");
            wrongAt("dst @1.2.3.4");
            wrongAt("src @( port 1 )");
            wrongAt("src @len = 1");
        });
        test("behind ip no proto, but as ip proto N", x -> {
            good("ip proto 6");
            wrongAt("ip proto@");
            wrongAt("ip proto @= 1");
        });
        test("behind others no proto", x -> {
            for (String name : new String[] {"ip6", "arp", "tcp", "udp", "icmp"}) {
                good(name);
                wrongAt(name + " @proto 6");
            }
        });
        test("behind them no [: else it is a RELATION", x -> {
            for (String name : new String[] {"ip", "ip6", "arp", "tcp", "udp", "icmp"}) {
                good(name + " [ 0 ] = 1");
                good(name + "[0]=1");
                wrongAt(name + " [ 0 ]@");
                wrongAt(name + " [ 0 ] @and ip");
                wrongAt(name + " @= 1");
                wrongAt(name + " @+ 1 = 1");
                wrongAt(name + " [@] = 1");
            }
        });
        test("ether is no PRIMITIVE of its own", x -> {
            wrongAt("ether@");
            wrongAt("ether @and ip");
            wrongAt("ether @= 1");
            wrongAt("( ether @)");
            good("ether [ 0 ] = 1");
        });
        test("one of the others lacks its [ in a SUM", x -> {
            for (String name : new String[] {"ether", "ip", "ip6", "arp", "tcp", "udp", "icmp"}) {
                wrongAt("1 = " + name + "@");
                wrongAt("1 = " + name + " @and ip");
                wrongAt("1 + " + name + " @= 1");
            }
        });
        test("host, port, not, and can't stand in a SUM", x -> {
            wrongAt("1 + @host = 1");
            wrongAt("1 = @not ip");
            wrongAt("1 = @( len )");
            wrongAt("{ ip @} = 1");
            wrongAt("1 = @proto");
        });
    }

    private static void relations() {
        test("RELATION: a sign, and only one", x -> {
            for (String sign : new String[] {"=", "!=", "<", "<=", ">", ">="}) {
                good("len " + sign + " 1");
                wrongAt("len " + sign + " 1 @" + sign + " 1");
                wrongAt("len " + sign + " @" + sign + " 1");
                wrongAt("@" + sign + " 1");
            }
            wrongAt("len@");
            wrongAt("len @and ip");
            wrongAt("len @1");
            wrongAt("1 @1 = 1");
        });
        test("SUM, PRODUCT: what stands between two", x -> {
            for (String sign : new String[] {"+", "-", "|", "^", "*", "/", "%", "&", "<<", ">>"}) {
                good("len " + sign + " 1 = 1");
                good("len = len " + sign + " 1");
                wrongAt("len " + sign + " @= 1");
                wrongAt("len = 1 " + sign + "@");
            }
            for (String sign : new String[] {"+", "|", "^", "*", "/", "%", "&", "<<", ">>"}) {
                wrongAt("@" + sign + " 1 = 1");
                wrongAt("1 = @" + sign + " 1");
                wrongAt("1 + @" + sign + " 1 = 1");
            }
        });
        test("{ SUM }: neither less nor more", x -> {
            good("{ 1 + 2 } = 3");
            wrongAt("{ @} = 3");
            wrongAt("{ 1 @) = 3");
            wrongAt("{ 1 @= 1 }");
            wrongAt("1 @} = 3");
            wrongAt("{ 1 + 2 } @} = 3");
            wrongAt("{ 1 @] = 1");
        });
        test("[ SUM ] or [ SUM : N ]", x -> {
            good("ether[len + 1] = 1");
            good("ether[len + 1 : 2] = 1");
            wrongAt("ether[@] = 1");
            wrongAt("ether[@: 1] = 1");
            wrongAt("ether[1 @} = 1");
            wrongAt("ether[1 : 1 @: 1] = 1");
            wrongAt("ether[1 : 1 @+ 1] = 1");
        });
        test("N being 1, 2, 4", x -> {
            for (int n = 0; n <= 9; n++) {
                if (n == 1 || n == 2 || n == 4) {
                    good("ether[0 : " + n + "] = 1");
                } else {
                    wrongAt("ether[0 : @" + n + "] = 1");
                }
            }
            good("ether[0 : 0x0002] = 1");
            wrongAt("ether[0 : @4294967297] = 1");
            wrongAt("ether[0 : @len] = 1");
            wrongAt("ether[0 : @- 1] = 1");
            wrongAt("ether[0 : @{ 1 }] = 1");
        });
        test("1 without it", x -> same("ether[5 : 1] = 1", "ether[5] = 1"));
        test("( FILTER ): neither less nor more", x -> {
            good("( ip and arp )");
            wrongAt("( @)");
            wrongAt("@)");
            wrongAt("( ip @}");
            wrongAt("( len @) = 1");
            wrongAt("( ip ) @= 1");
            wrongAt("( ip ) @( arp )");
        });
        test("ALL, FILTER: and, or stand between two", x -> {
            wrongAt("ip and @and arp");
            wrongAt("ip or @and arp");
            wrongAt("@or ip");
            wrongAt("not @and ip");
            wrongAt("not @or ip");
        });
    }

    private static void depths() {
        test("a 21st not in one another", x -> {
            good(times(20, "not ") + "ip");
            wrongAt(times(20, "not ") + "@not ip");
            wrongAt(times(20, "not ") + "@not" + times(30, " not"));
        });
        test("a 21st ( in one another", x -> {
            good(times(20, "(") + "ip" + times(20, ")"));
            wrongAt(times(20, "(") + "@(ip" + times(21, ")"));
            wrongAt(times(20, "( ") + "@(");
        });
        test("a 21st of not and ( together", x -> {
            good(times(10, "not ( ") + "ip" + times(10, " )"));
            wrongAt(times(10, "not ( ") + "@not ip" + times(10, " )"));
            wrongAt(times(10, "not ( ") + "@( ip" + times(11, " )"));
            wrongAt("( " + times(19, "not ") + "@( ip ) )");
            wrongAt("not " + times(19, "( ") + "@not ip" + times(19, " )"));
        });
        test("in one another: behind its end a not or ( is not within it", x -> {
            good(times(20, "not ") + "ip and " + times(20, "not ") + "ip or " + times(20, "(") + "ip" + times(20, ")"));
            good(times(25, "( ip ) and ") + "ip");
            good(times(25, "not ip or ") + "ip");
            good("( " + times(19, "(") + "ip" + times(19, ")") + " and " + times(19, "not ") + "ip )");
            good(times(20, "(") + "ip" + times(20, ")") + " and not arp");
            wrongAt("( " + times(19, "(") + "ip" + times(19, ")") + " and " + times(19, "not ") + "@( ip ) )");
        });
        test("in one another: a not reaches to the end of its ONE, not behind it", x -> {
            good("( not ip and " + times(19, "not ") + "arp )");
            wrongAt("( not ip and " + times(19, "not ") + "@not arp )");
            good("not ( ip ) and " + times(20, "not ") + "arp");
            wrongAt("not ( ip ) and " + times(20, "not ") + "@not arp");
        });
        test("{ and [ do not count for not and (", x -> good(times(20, "(") + "{ { 1 } } = ether[ { 1 } ]" + times(20, ")")));
        test("a third { in one another", x -> {
            good("{ { 1 } } = 1");
            wrongAt("{ { @{ 1 } } } = 1");
            wrongAt("1 = { { @{ 1 } } }");
            wrongAt("1 = 1 + 1 * { 1 + { 1 + @{");
        });
        test("a third [ in one another", x -> {
            good("ether[ ip[ 1 ] ] = 1");
            wrongAt("ether[ ip[ tcp@[ 1 ] ] ] = 1");
            wrongAt("1 = ether[ ip[ 1 + 1 * tcp@[ 1 ] ] ]");
        });
        test("a third of { and [ together", x -> {
            good("{ ether[ 1 ] } = 1");
            good("ether[ { 1 } ] = 1");
            wrongAt("{ ether[ @{ 1 } ] } = 1");
            wrongAt("{ ether[ ip@[ 1 ] ] } = 1");
            wrongAt("{ { ether@[ 1 ] } } = 1");
            wrongAt("ether[ { @{ 1 } } ] = 1");
            wrongAt("ether[ { ip@[ 1 ] } ] = 1");
            wrongAt("ether[ ip[ @{ 1 } ] ] = 1");
        });
        test("in one another: behind its end a { or [ is not within it", x -> {
            good("{ { 1 } + { 1 } } * { { 1 } } + ether[ { 1 } ] = { ether[ 1 ] + ip[ 2 ] }");
            good("{ 1 } + { 1 } + { 1 } + ether[ 1 ] + ether[ 1 ] + ether[ 1 ] = 1");
            good("{ { 1 } } = { { 1 } } and { { 1 } } = { { 1 } }");
            wrongAt("{ { 1 } + { 1 + @{ 1 } } } = 1");
        });
        test("a 9th - in a row ahead of one ATOM", x -> {
            good(times(8, "- ") + "len = 1");
            wrongAt(times(8, "- ") + "@- len = 1");
            wrongAt("1 = " + times(8, "-") + "@-1");
            wrongAt("1 = 1 * " + times(8, "-") + "@-" + times(20, "-"));
        });
        test("a 9th -: the - between two is none of them", x -> {
            good("len - " + times(8, "- ") + "len = 1");
            wrongAt("len - " + times(8, "- ") + "@- len = 1");
        });
        test("a 9th -: of one ATOM, not of the next, nor of what stands in { } or [ ]", x -> {
            good(times(8, "-") + "len * " + times(8, "-") + "len + " + times(8, "-") + "1 = " + times(8, "-") + "1");
            good(times(8, "-") + "{" + times(8, "-") + "{" + times(8, "-") + "1 } } = 1");
            good(times(8, "-") + "ether[" + times(8, "-") + "1 ] = 1");
            wrongAt(times(8, "-") + "{" + times(8, "-") + "@- 1 } = 1");
        });
    }

    private static void tapes() {
        test("6: the TAPE is empty then", x -> {
            compile(x, "ip");
            due("count(3)", x.count(3), 0);
            due("compile()", x.compile(), -1);
        });
        test("6: the TAPE is empty then, also of a WRONG one", x -> {
            compile(x, "ip ip");
            due("count(3)", x.count(3), 0);
            due("feed", x.feed(0, 0, 0, 0, 0), 20);
        });
        test("6: a WRONG one: the PROGRAM stays, that of compile()", x -> {
            compile(x, "arp");
            due("compile", compile(x, "ip and ip and )"), -15);
            due("count(1)", x.count(1), 7);
            due("instruction(2)", x.instruction(2), instruction("56 0 0 2 2054"));
            due("instruction(7)", x.instruction(7), 0);
        });
        test("6: a WRONG one: the PROGRAM stays, that of load()", x -> {
            load(x, "b7 0 0 0 7", END);
            due("compile", compile(x, "ip and"), -7);
            due("count(1)", x.count(1), 2);
            due("instruction(0)", x.instruction(0), instruction("b7 0 0 0 7"));
        });
        test("6: a WRONG one: the former FILTER stays", x -> {
            packet(x, 0, 0, 0, 0, 0, 0, 0, 0, 0, 0, 0, 0, 8, 6);
            compile(x, "arp");
            compile(x, "not arp and");
            due("matches()", x.matches(), 1);
            due("count(4)", x.count(4), 1);
        });
        test("6: a WRONG one: what was done to the object ahead stays", x -> {
            packetOf(x, 3);
            load(x, "b7 0 0 0 7", END);
            x.run(0);
            x.verify();
            raw(x, 0x73);
            compile(x, ")");
            ended(x, 0, 2, 1);
            due("register(0)", x.register(0), 7);
            due("known(1, 0, 1)", x.known(1, 0, 1), 7);
            due("count(2)", x.count(2), 1);
            due("count(0)", x.count(0), 1);
        });
        test("6: no FILTER stays none behind a WRONG one", x -> {
            compile(x, ")");
            due("matches()", x.matches(), -1);
            due("count(1)", x.count(1), 0);
            due("verify()", x.verify(), -1);
        });
        test("6: a good one behind a WRONG one", x -> {
            compile(x, "ip and ( arp or )");
            due("compile", compile(x, "arp"), 7);
            due("count(4)", x.count(4), 1);
        });
        test("6: what compile() makes does not touch OBJECT, runs, or what known() tells", x -> {
            packetOf(x, 3);
            load(x, "b7 0 0 0 7", END);
            x.verify();
            x.translate();
            x.run(0);
            compile(x, "ip");
            due("count(2)", x.count(2), 2);
            due("known(1, 0, 1)", x.known(1, 0, 1), 7);
            due("known(2, 0, 0)", x.known(2, 0, 0), -1);
            ended(x, 0, 2, 1);
            due("emulate(0)", x.emulate(0), 7);
        });
    }

    private static void longest() {
        test("6: exactly 4000 INSTRUCTIONS", x -> {
            String text = manyTests(4000);
            due("compile", compile(x, text), 4000);
            due("count(1)", x.count(1), 4000);
            due("instruction(3999)", x.instruction(3999), 149);
            due("instruction(3998)", x.instruction(3998), instruction("b4 0 0 0 0"));
            due("instruction(4000)", x.instruction(4000), 0);
            due("verify()", x.verify(), 0);
            due("known(3999, 0, 1)", x.known(3999, 0, 1), 0);
        });
        test("6: -3000: more than 4000 INSTRUCTIONS, by 1", x -> due("compile", compile(x, manyTests(4001)), -3000));
        test("6: -3000: more than 4000 INSTRUCTIONS, by 2", x -> due("compile", compile(x, manyTests(4002)), -3000));
        test("6: -3000: the PROGRAM and the former FILTER stay, the TAPE does not", x -> {
            packet(x, 0, 0, 0, 0, 0, 0, 0, 0, 0, 0, 0, 0, 8, 6);
            compile(x, "arp or arp");
            due("compile", compile(x, manyTests(4001)), -3000);
            due("count(1)", x.count(1), 7);
            due("count(3)", x.count(3), 0);
            due("count(4)", x.count(4), 2);
            due("count(5)", x.count(5), 1);
            due("matches()", x.matches(), 1);
            due("run(0)", x.run(0), 1);
            due("instruction(6)", x.instruction(6), 149);
        });
        test("6: -3000: no PROGRAM and no FILTER stay none", x -> {
            compile(x, manyTests(4001));
            due("matches()", x.matches(), -1);
            due("count(1)", x.count(1), 0);
        });
        test("6: a WRONG one counts ahead of more than 4000", x -> {
            String text = manyTests(4001);
            due("compile", compile(x, text + ")"), -1 - text.length());
            due("compile", compile(x, text + " or"), -1 - text.length() - 3);
        });
        test("6: a good one behind one that had more than 4000", x -> {
            compile(x, manyTests(4001));
            due("compile", compile(x, manyTests(4000)), 4000);
            due("compile", compile(x, "arp"), 7);
        });
        test("6: BLOCKS that are left out are no INSTRUCTIONS of the 4000", x -> {
            String most = "port 1" + times(136, " or port 1") + times(10, " or 1=2");
            due("compile", compile(x, most + " or ip"), 4000);
            due("compile", compile(x, most + times(80, " or ip")), 4000);
            due("count(4)", x.count(4), 11 * 137 + 10 + 80);
            due("count(5)", x.count(5), 79);
        });
    }

    /** A text of so many INSTRUCTIONS: r6 = r1, MATCH and NO are 5, each port 29, 1=2 and 1+1=3 are 2 and 3. */
    private static String manyTests(int length) {
        StringBuilder text = new StringBuilder("port 1" + times(136, " or port 1"));
        int left = length - 5 - 137 * 29;
        if (left % 2 != 0) {
            text.append(" or 1+1=3");
            left -= 3;
        }
        return text + times(left / 2, " or 1=2");
    }

    public static void main(String[] args) {
        places();
        words();
        numbers();
        addresses();
        primitives();
        relations();
        depths();
        tapes();
        longest();
        finish("EdgeWordsTest");
    }
}
