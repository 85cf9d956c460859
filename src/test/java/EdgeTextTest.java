/** The edges of the text: how many of each, the ranges, tokens, each fault and its place, 700 bytes (promises 1 to 4). */
public final class EdgeTextTest {
    private static final Check CHECK = new Check();
    private static final String LINK = "link 0 1 1 1;";
    private static final String TUNNEL = "tunnel 0 1 1 1 1;";

    private EdgeTextTest() {
    }

    private static TunnelPlan good(String text) {
        TunnelPlan x = new TunnelPlan();
        CHECK.same("network of '" + text + "'", Tape.load(x, text), 0);
        CHECK.same("fault of '" + text + "'", x.fault(), -1);
        CHECK.same("refused for '" + text + "'", x.count(14), 0);
        return x;
    }

    /** The class answers that fault, tells that place, counts it, and all stays. */
    private static void bad(String text, int fault, int place) {
        TunnelPlan x = Tape.plan("nodes 4;link 3 2 1 9;link 2 3 1 9;tunnel 3 2 1 1 1;");
        x.setUp(0);
        CHECK.same("network of '" + text + "'", Tape.load(x, text), fault);
        CHECK.same("place in '" + text + "'", x.fault(), place);
        CHECK.same("refused for '" + text + "'", x.count(14), 1);
        CHECK.row("as it was behind '" + text + "'", x::count, 4, 2, 1, 1, 3, 1, 1);
        CHECK.same("the tape is empty behind '" + text + "'", x.count(13), 0);
    }

    private static void newObject() {
        TunnelPlan x = new TunnelPlan();
        CHECK.row("count of a new object", x::count, 2, 0, 0, 0, 0, 0, 0, -1, 0, -1, 0, 0, 0, 0, 0, 0, 0);
        CHECK.same("fault", x.fault(), -1);
        CHECK.same("node 1", x.distance(0, 1), -1);
        CHECK.noSuch("node 2", () -> x.distance(0, 2));
        CHECK.noSuch("link 0", () -> x.link(0, 0));
        CHECK.noSuch("tunnel 0", () -> x.tunnel(0, 0));
        CHECK.same("order", x.order(0), -1);
        CHECK.same("to break", x.toBreak(), 0);
        CHECK.same("undo", x.undo(), -1);
        CHECK.no("image", x.restore());
        CHECK.row("other", x::other, 0, -1, 1);
        CHECK.row("years", what -> x.years(1, 60, what), 0, 0, 0);
        CHECK.row("widest, flow, cuts", i -> i == 0 ? x.widest(0, 1, 0) : i == 1 ? x.flow(0, 1, 0) : x.cuts(0, 1), 0, 0, 0);
        CHECK.illegal("network(1) of an empty tape", () -> x.network(1));
        CHECK.same("network(0) of an empty tape", x.network(0), 0);
        CHECK.same("NONE", TunnelPlan.NONE, -1);
    }

    // ---- how many there may be

    private static void howManyNodes() {
        for (int n = 2; n <= 8; n++) {
            int nodes = n;
            TunnelPlan x = good("nodes " + n + ";");
            CHECK.same("nodes", x.count(0), n);
            CHECK.same("the last one", x.distance(n - 1, n - 1), 0);
            CHECK.noSuch("the first that there isn't", () -> x.distance(nodes, 0));
            CHECK.noSuch("none below 0", () -> x.distance(-1, 0));
        }
        bad("nodes 0;", 2, 6);
        bad("nodes 1;", 2, 6);
        bad("nodes 9;", 2, 6);
        CHECK.same("2 without 'nodes'", good(LINK).count(0), 2);
        CHECK.same("2 of an empty text", good("").count(0), 2);
    }

    private static void howManyLinks() {
        TunnelPlan x = good(LINK.repeat(16));
        CHECK.same("16 links", x.count(1), 16);
        CHECK.same("all up", x.count(4), 65535);
        CHECK.same("link 15", x.link(15, 3), 1);
        CHECK.noSuch("link 16", () -> x.link(16, 3));
        CHECK.same("15 links", good(LINK.repeat(15)).count(1), 15);
        CHECK.same("tunnels behind 16 links", good(LINK.repeat(16) + TUNNEL).count(2), 1);
        bad(LINK.repeat(17), 2, 16 * 13);
        bad(LINK.repeat(16) + "  link", 2, 16 * 13 + 2);
        bad(LINK.repeat(16) + TUNNEL + "link 7 7 7 777;", 2, 16 * 13 + 17);
    }

    private static void howManyTunnels() {
        TunnelPlan x = good(TUNNEL.repeat(9));
        CHECK.same("9 tunnels", x.count(2), 9);
        CHECK.same("tunnel 8", x.tunnel(8, 2), 1);
        CHECK.noSuch("tunnel 9", () -> x.tunnel(9, 2));
        CHECK.same("8 tunnels", good(TUNNEL.repeat(8)).count(2), 8);
        CHECK.same("links behind 9 tunnels", good(TUNNEL.repeat(9) + LINK).count(1), 1);
        bad(TUNNEL.repeat(10), 2, 9 * 17);
        bad(TUNNEL.repeat(9) + "\ntunnel", 2, 9 * 17 + 1);
        bad(TUNNEL.repeat(9) + LINK + "tunnel 7 7 777 9 9;", 2, 9 * 17 + 13);
    }

    // ---- the ranges

    /** The number stands where # is: least and most can be, told in four digits too; one less and one more can't. */
    private static void range(String text, int least, int most) {
        int place = text.indexOf('#');
        good(text.replace("#", String.valueOf(least)));
        good(text.replace("#", String.valueOf(most)));
        good(text.replace("#", String.format("%04d", least)));
        good(text.replace("#", String.format("%04d", most)));
        if (least > 0) {
            bad(text.replace("#", String.valueOf(least - 1)), 2, place);
        }
        bad(text.replace("#", String.valueOf(most + 1)), 2, place);
        bad(text.replace("#", "9999"), 2, place);
        bad(text.replace("#", String.format("%05d", least)), 2, place);
        bad(text.replace("#", String.format("%05d", most)), 2, place);
        bad(text.replace("#", "10000"), 2, place);
        bad(text.replace("#", "4294967297"), 2, place);
        bad(text.replace("#", "18446744073709551617"), 2, place);
        bad(text.replace("#", "-1"), 1, place);
        bad(text.replace("#", "x"), 1, place);
        bad(text.replace("#", "x;1"), 1, place);
    }

    private static void ranges() {
        range("nodes #;", 2, 8);
        range("link 0 1 # 1;", 1, 99);
        range("link 0 1 1 #;", 1, 99);
        range("link 0 1 1 1 #;", 0, 15);
        range("tunnel 0 1 # 7 7;", 1, 99);
        range("tunnel 0 1 1 # 0;", 0, 7);
        range("tunnel 0 1 1 1 1 #;", 0, 15);
        range("tunnel 0 1 1 1 1 0 #;", 1, 7);
    }

    /** HOLD no more than SETUP. */
    private static void holds() {
        for (int setup = 0; setup <= 7; setup++) {
            range("tunnel 0 1 1 " + setup + " #;", 0, setup);
        }
    }

    private static void whatWasRead() {
        TunnelPlan x = good("nodes 8;link 7 0 99 99 15;link 0 7 1 1 0;link 6 5 98 2;tunnel 7 0 99 7 7 15 7;tunnel 0 7 1 0 0 0 1;tunnel 5 6 98 7 0;tunnel 5 6 1 5 5 14;");
        CHECK.row("the most of a link", i -> x.link(0, i), 7, 0, 99, 99, 15, 1, 0, 0);
        CHECK.row("the least of a link", i -> x.link(1, i), 0, 7, 1, 1, 0, 1, 0, 0);
        CHECK.row("a link without colours", i -> x.link(2, i), 6, 5, 98, 2, 0);
        CHECK.row("the most of a tunnel", i -> x.tunnel(0, i), 7, 0, 99, 7, 7, 15, 7, 0, -1, -1, -1);
        CHECK.row("the least of a tunnel", i -> x.tunnel(1, i), 0, 7, 1, 0, 0, 0, 1);
        CHECK.row("a tunnel without colours, without hops", i -> x.tunnel(2, i), 5, 6, 98, 7, 0, 0, 7);
        CHECK.row("a tunnel without hops", i -> x.tunnel(3, i), 5, 6, 1, 5, 5, 14, 7);
    }

    /** Fault 3 and 4: each NODE, by how many nodes there are, of a link and of a tunnel. */
    private static void nodes() {
        for (int n = 2; n <= 8; n++) {
            for (String rest : new String[] {" 1 1;", " 1 1 1;"}) {
                String head = "nodes " + n + ";" + (rest.length() == 5 ? "link " : "tunnel ");
                int place = head.length();
                good(head + (n - 1) + " 0" + rest);
                good(head + "000" + (n - 1) + " 0" + rest);
                good(head + "0 " + (n - 1) + rest);
                bad(head + n + " 0" + rest, 3, place);
                bad(head + "9999 0" + rest, 3, place);
                bad(head + "10000 0" + rest, 2, place);
                bad(head + "0 " + n + rest, 3, place + 2);
                bad(head + "0 9999" + rest, 3, place + 2);
                bad(head + "0 10000" + rest, 2, place + 2);
                bad(head + "0 0" + rest, 4, place + 2);
                bad(head + "0 0000" + rest, 4, place + 2);
                bad(head + "0 00000" + rest, 2, place + 2);
                bad(head + (n - 1) + " " + (n - 1) + rest, 4, place + 2);
                bad(head + n + " " + n + rest, 3, place);
            }
        }
        good(LINK);
        bad("link 2 0 1 1;", 3, 5);
        bad("tunnel 0 2 1 1 1;", 3, 9);
    }

    // ---- tokens

    private static boolean isBlank(int b) {
        return b == 32 || b == 10;
    }

    /** Each byte alone: but for blanks none can stand there. */
    private static void eachByteAlone() {
        for (int b = 0; b < 256; b++) {
            String text = "" + (char) b;
            if (isBlank(b)) {
                good(text);
            } else {
                bad(text, 1, 0);
            }
        }
    }

    /** Each byte behind a word: a letter makes it another word, a digit another number, a blank counts for nothing. */
    private static void eachByteBehindAWord() {
        for (int b = 0; b < 256; b++) {
            String text = "link" + (char) b + "1 0 1 1;";
            if (isBlank(b) || b == '0') {
                good(text);
            } else if (b >= '1' && b <= '9') {
                bad(text, 3, 4);
            } else if (b >= 'a' && b <= 'z') {
                bad(text, 1, 0);
            } else {
                bad(text, 1, 4);
            }
        }
    }

    /** Each byte behind a number: a digit makes it another one, ';' ends the line, what is left then can't stand there. */
    private static void eachByteBehindANumber() {
        for (int b = 0; b < 256; b++) {
            String text = "link 0 1 1 1" + (char) b + ";";
            if (isBlank(b)) {
                good(text);
            } else if (b >= '0' && b <= '9') {
                CHECK.same("capacity of " + text, good(text).link(0, 3), 10 + b - '0');
            } else {
                bad(text, 1, b == ';' ? 13 : 12);
            }
        }
    }

    private static void blanks() {
        good("\n\n  nodes\n3\n;\n link\n\n0 1    1 1\n;\n\n");
        good("nodes3;link0 1 1 1;tunnel0 1 1 1 1;");
        good("nodes 3 ; link 0 1 1 1 ; tunnel 0 1 1 1 1 ;");
        bad("no des 3;", 1, 0);
        bad("nodes 3;li\nnk 0 1 1 1;", 1, 8);
        bad("link01 0 1;", 1, 10);
        CHECK.same("a number is the longest row", good("link0 1 1 11;").link(0, 3), 11);
        CHECK.same("a blank makes it two", good("link0 1 1 1 1;").link(0, 3), 1);
    }

    private static void words() {
        bad("node 3;", 1, 0);
        bad("nodess 3;", 1, 0);
        bad("lin 0 1 1 1;", 1, 0);
        bad("links 0 1 1 1;", 1, 0);
        bad("linknodes 0 1 1 1;", 1, 0);
        bad("tunne 0 1 1 1 1;", 1, 0);
        bad("tunnels 0 1 1 1 1;", 1, 0);
        bad("Nodes 3;", 1, 0);
        bad("LINK 0 1 1 1;", 1, 0);
        bad("`link 0 1 1 1;", 1, 0);
        bad("{link 0 1 1 1;", 1, 0);
    }

    /** Each letter of each word counts. */
    private static void letters() {
        for (String text : new String[] {"nodes 3;", "link 0 1 1 1;", "tunnel 0 1 1 1 1;"}) {
            good(text);
            for (int i = 0; i < text.indexOf(' '); i++) {
                for (char c : new char[] {'a', 'z', (char) (text.charAt(i) + 1), (char) (text.charAt(i) - 1)}) {
                    bad(text.substring(0, i) + c + text.substring(i + 1), 1, 0);
                }
                bad(text.substring(0, i) + (char) (text.charAt(i) - 32) + text.substring(i + 1), 1, 0);
                bad(text.substring(0, i) + text.substring(i + 1), 1, 0);
            }
        }
    }

    /** Each of 16 links and 9 tunnels is read as it is told, whatever was there. */
    private static void eachOfThemIsRead() {
        StringBuilder b = new StringBuilder("nodes 8;");
        for (int i = 0; i < 16; i++) {
            b.append("link ").append(i % 8).append(' ').append((i + 1 + i / 8) % 8).append(' ').append(84 + i).append(' ').append(99 - i).append(' ').append(i).append(';');
        }
        for (int i = 0; i < 9; i++) {
            b.append("tunnel ").append((i + 7) % 8).append(' ').append((i + 5) % 8).append(' ').append(91 + i).append(' ');
            b.append(Math.min(7, i)).append(' ').append(i / 2).append(' ').append(15 - i).append(' ').append(1 + i % 7).append(';');
        }
        TunnelPlan x = Tape.plan("nodes 3;" + "link 0 1 1 1 1;".repeat(16) + "tunnel 0 1 1 1 1 1;".repeat(9));
        CHECK.same("network", Tape.load(x, b.toString()), 0);
        for (int i = 0; i < 16; i++) {
            int link = i;
            CHECK.row("link " + i, k -> x.link(link, k), i % 8, (i + 1 + i / 8) % 8, 84 + i, 99 - i, i, 1, 0, 0);
        }
        for (int i = 0; i < 9; i++) {
            int tunnel = i;
            CHECK.row("tunnel " + i, k -> x.tunnel(tunnel, k), (i + 7) % 8, (i + 5) % 8, 91 + i, Math.min(7, i), i / 2, 15 - i, 1 + i % 7, 0);
        }
    }

    private static void digits() {
        good("nodes 0003;");
        bad("nodes 00003;", 2, 6);
        good("link 0 1 9 0099;");
        bad("link 0 1 9 00099;", 2, 11);
        good("tunnel 0000 0001 0001 0001 0001 0001 0001;");
        bad("tunnel 0 1 1 1 1 1 00001;", 2, 19);
    }

    // ---- faults

    /** Fault 1 with the text's length, wherever it ends too soon, with blanks behind it or without. */
    private static void endsTooSoon() {
        String[] ends = {"nodes", "nodes 3", "link", "link 0", "link 0 1", "link 0 1 1", "link 0 1 1 1", "link 0 1 1 1 1",
            "tunnel", "tunnel 0", "tunnel 0 1", "tunnel 0 1 1", "tunnel 0 1 1 1", "tunnel 0 1 1 1 1", "tunnel 0 1 1 1 1 1", "tunnel 0 1 1 1 1 1 1"};
        for (String text : ends) {
            bad(text, 1, text.length());
            bad(text + "\n ", 1, text.length() + 2);
            String behind = text.startsWith("nodes") ? "  " : LINK;
            bad(behind + text, 1, behind.length() + text.length());
        }
        good("nodes 3;");
        good(LINK);
        good(TUNNEL);
        // A word or a number that is cut is a token still.
        bad("nodes 3;lin", 1, 8);
        bad("nodes 3;link 0 1 1 10", 1, 21);
    }

    /** What ends too soon is told by n, not by what the tape has. */
    private static void endsByN() {
        String text = "link 0 1 1 1;tunnel 0 1 1 1 1;";
        for (int n = 0; n <= text.length(); n++) {
            TunnelPlan x = new TunnelPlan();
            Tape.feed(x, text);
            boolean whole = n == 0 || n == 13 || n == 30;
            boolean cutWord = n > 0 && n < 4 || n > 13 && n < 19;
            CHECK.same("network(" + n + ")", x.network(n), whole ? 0 : 1);
            CHECK.same("place by " + n, x.fault(), whole ? -1 : cutWord ? n < 13 ? 0 : 13 : n);
            CHECK.same("the tape is empty behind " + n, x.count(13), 0);
        }
    }

    /** 'nodes' but at the beginning. */
    private static void nodesAtTheBeginning() {
        CHECK.same("nodes", good("\n nodes 5;").count(0), 5);
        bad("nodes 3;nodes 3;", 1, 8);
        bad("nodes 3; nodes", 1, 9);
        bad(LINK + "nodes 3;", 1, 13);
        bad(TUNNEL + "nodes 3;", 1, 17);
        bad(";nodes 3;", 1, 0);
    }

    /** Fault 1: each kind of token where another one must stand. */
    private static void cantStand() {
        bad("3;", 1, 0);
        bad("12345;", 1, 0);
        bad(";", 1, 0);
        bad("nodes;", 1, 5);
        bad("nodes nodes;", 1, 6);
        bad("nodes link 0 1 1 1;", 1, 6);
        bad("nodes 3 4;", 1, 8);
        bad("nodes 3 12345;", 1, 8);
        bad("nodes 3 link", 1, 8);
        bad("nodes 3;;", 1, 8);
        bad("link;", 1, 4);
        bad("link 0;", 1, 6);
        bad("link 0 1;", 1, 8);
        bad("link 0 1 1;", 1, 10);
        bad("link 0 1 1 1 1 1;", 1, 15);
        bad("link 0 1 1 1 1 12345;", 1, 15);
        bad("link 0 1 1 1 1 link", 1, 15);
        bad("link link", 1, 5);
        bad("tunnel;", 1, 6);
        bad("tunnel 0;", 1, 8);
        bad("tunnel 0 1;", 1, 10);
        bad("tunnel 0 1 1;", 1, 12);
        bad("tunnel 0 1 1 1;", 1, 14);
        bad("tunnel 0 1 1 1 1 1 1 1;", 1, 21);
        bad("tunnel 0 1 1 1 1 1 1 12345;", 1, 21);
        bad("tunnel 0 1 1 1 1 1 tunnel", 1, 19);
        bad(LINK + ";", 1, 13);
        bad(LINK + "7;", 1, 13);
    }

    /** The first fault along the text, whatever comes behind it. */
    private static void theFirstAlongTheText() {
        bad("nodes 9 9;x", 2, 6);
        bad("link 0 1 0 x;", 2, 9);
        bad("link 0 1 0 0;", 2, 9);
        bad("link 0 0 0 0;", 4, 7);
        bad("link 5 5 0 0;", 3, 5);
        bad("link 0 5 0 0;", 3, 7);
        bad("link x 5 0 0;", 1, 5);
        bad("tunnel 0 1 0 8 9 16 8 x", 2, 11);
        bad("tunnel 0 1 1 8 9 16 8 x", 2, 13);
        bad("tunnel 0 1 1 7 9 16 8 x", 2, 15);
        bad("tunnel 0 1 1 7 7 16 8 x", 2, 17);
        bad("tunnel 0 1 1 7 7 15 8 x", 2, 20);
        bad("tunnel 0 1 1 7 7 15 7 x", 1, 22);
        bad("link 0 1 1 100" + LINK.repeat(17), 2, 11);
        bad("link 0 1 1 1 16;nodes 9;", 2, 13);
    }

    /** Of one token the least fault: a token that can't stand there is 1, though it is too much as well. */
    private static void ofOneTokenTheLeast() {
        bad("nodes 3 00000;", 1, 8);
        bad("link 0 1 1 1 1 99999;", 1, 15);
        bad(LINK.repeat(15) + "link 0 1 1 1 link 0 1 1 1;", 1, 15 * 13 + 13);
        bad(LINK.repeat(16) + "7 link", 1, 16 * 13);
        bad(TUNNEL.repeat(8) + "tunnel 0 1 1 1 1 tunnel", 1, 8 * 17 + 17);
        bad(LINK.repeat(16) + "links", 1, 16 * 13);
        bad("link 0 10000 1 1;", 2, 7);
        bad("link 10000 0 1 1;", 2, 5);
        bad("tunnel 0 00000 1 1 1;", 2, 9);
        bad("tunnel 00000 1 1 1 1;", 2, 7);
    }

    // ---- the tape

    private static void sevenHundredBytes() {
        String blank = " ".repeat(687);
        TunnelPlan x = good("link 0 1 1 1" + blank + ";");
        CHECK.same("the last byte counts", x.count(1), 1);
        bad("link 0 1 1 1" + blank + " ", 1, 700);
        bad(" ".repeat(699) + "x", 1, 699);
        bad(" ".repeat(699) + ";", 1, 699);
        bad("l" + "x".repeat(699), 1, 0);
        bad("nodes " + "1".repeat(694), 2, 6);
        good(" ".repeat(700));
        good(LINK.repeat(16) + TUNNEL.repeat(9) + "\n".repeat(700 - 16 * 13 - 9 * 17));
    }

    /** 35 times twenty bytes are 700; none come beyond them, and what there is stays. */
    private static void feedUpTo700() {
        TunnelPlan x = new TunnelPlan();
        CHECK.same("the first twenty", Tape.feed(x, "link 0 1 1 1 7;     "), 20);
        for (int i = 2; i <= 34; i++) {
            CHECK.same("feed", x.feed(0x20202020, 0x20202020, 0x20202020, 0x20202020, 0x20202020), 20 * i);
        }
        CHECK.same("the last twenty", Tape.feed(x, "     link 1 0 2 2 5;"), 700);
        CHECK.same("none come", x.feed(0, 0, 0, 0, 0), -1);
        CHECK.same("none come again", Tape.feed(x, "x".repeat(20)), -1);
        CHECK.same("bytes of the tape", x.count(13), 700);
        CHECK.illegal("701", () -> x.network(701));
        CHECK.same("all 700", x.network(700), 0);
        CHECK.row("its first bytes", i -> x.link(0, i), 0, 1, 1, 1, 7);
        CHECK.row("its last bytes", i -> x.link(1, i), 1, 0, 2, 2, 5);
        CHECK.same("the tape is empty then", x.count(13), 0);
        CHECK.same("and takes more", x.feed(0, 0, 0, 0, 0), 20);
    }

    /** Of each number the highest byte first, the numbers one behind the other. */
    private static void theHighestFirst() {
        for (int at = 0; at < 20; at++) {
            TunnelPlan x = new TunnelPlan();
            int[] n = {0x20202020, 0x20202020, 0x20202020, 0x20202020, 0x20202020};
            // 128 to 255 make a number negative, if they are the highest.
            n[at / 4] ^= (0x20 ^ 0xa0) << 24 - at % 4 * 8;
            CHECK.same("feed", x.feed(n[0], n[1], n[2], n[3], n[4]), 20);
            CHECK.same("byte " + at, x.network(20), 1);
            CHECK.same("its place", x.fault(), at);
        }
    }

    /** n from 0 to what the tape has; else nothing changes. */
    private static void howManyBytes() {
        for (int n = -2; n <= 42; n++) {
            TunnelPlan x = Tape.plan("nodes 5;");
            Tape.load(x, "link x");
            Tape.feed(x, "nodes 3;" + " ".repeat(32));
            int given = n;
            if (n < 0 || n > 40) {
                CHECK.illegal("network(" + n + ")", () -> x.network(given));
                CHECK.row("as it was", i -> x.count(13 + i), 40, 1);
                CHECK.same("the fault as it was", x.fault(), 5);
                CHECK.same("nodes as they were", x.count(0), 5);
            } else {
                boolean whole = n == 0 || n >= 8;
                CHECK.same("network(" + n + ")", x.network(n), whole ? 0 : 1);
                CHECK.row("an empty tape", i -> x.count(13 + i), 0, whole ? 1 : 2);
                CHECK.same("the fault", x.fault(), whole ? -1 : n < 5 ? 0 : n);
                CHECK.same("nodes", x.count(0), n == 0 ? 2 : whole ? 3 : 5);
            }
        }
        CHECK.illegal("the least int", () -> new TunnelPlan().network(Integer.MIN_VALUE));
        CHECK.illegal("the greatest int", () -> new TunnelPlan().network(Integer.MAX_VALUE));
    }

    /** The place of the latest one. */
    private static void latestFault() {
        TunnelPlan x = new TunnelPlan();
        CHECK.same("none yet", x.fault(), -1);
        Tape.load(x, " x");
        CHECK.same("the first", x.fault(), 1);
        Tape.load(x, "  x");
        CHECK.same("the second", x.fault(), 2);
        CHECK.same("two are counted", x.count(14), 2);
        CHECK.illegal("no network", () -> x.network(1));
        CHECK.same("the second still", x.fault(), 2);
        Tape.load(x, "  ");
        CHECK.same("none", x.fault(), -1);
        CHECK.same("two still", x.count(14), 2);
        Tape.load(x, "x");
        CHECK.same("the third", x.fault(), 0);
        CHECK.same("three are counted", x.count(14), 3);
    }

    /** Behind a text without a fault acts, sights and the image are gone, STATUS stays. */
    private static void allAnew() {
        TunnelPlan x = Tape.plan("nodes 3;link 0 1 1 5;link 1 2 1 5;tunnel 0 1 3 2 2;tunnel 0 2 1 2 2;");
        x.resize(0, 4);
        x.setUp(0);
        x.setUp(0);
        x.fail(1);
        x.see(0, 1, 1, 1, true);
        x.see(0, 0, 1, 1, true);
        x.image();
        Tape.load(x, "x");
        CHECK.row("ahead of it", i -> x.count(11 + i), 3, 1, 0, 1, 1, 1);
        CHECK.same("the same text again", Tape.load(x, "nodes 3;link 0 1 1 5;link 1 2 1 5;tunnel 0 1 3 2 2;tunnel 0 2 1 2 2;"), 0);
        CHECK.row("all anew", x::count, 3, 2, 2, 0, 3, 0, 0, 0, 0, -1, 0, 0, 0, 0, 1, 1, 1);
        CHECK.same("its bandwidth as told", x.tunnel(0, 2), 3);
        CHECK.same("no act", x.undo(), -1);
        CHECK.no("no image", x.restore());
        CHECK.same("a smaller one", Tape.load(x, ""), 0);
        CHECK.row("without any", x::count, 2, 0, 0, 0, 0, 0, 0, -1, 0);
        CHECK.noSuch("link 0 is gone", () -> x.link(0, 0));
        CHECK.noSuch("tunnel 0 is gone", () -> x.tunnel(0, 0));
        CHECK.noSuch("node 2 is gone", () -> x.distance(2, 2));
    }

    public static void main(String[] args) {
        newObject();
        howManyNodes();
        howManyLinks();
        howManyTunnels();
        ranges();
        holds();
        whatWasRead();
        nodes();
        eachByteAlone();
        eachByteBehindAWord();
        eachByteBehindANumber();
        blanks();
        words();
        letters();
        eachOfThemIsRead();
        digits();
        endsTooSoon();
        endsByN();
        nodesAtTheBeginning();
        cantStand();
        theFirstAlongTheText();
        ofOneTokenTheLeast();
        sevenHundredBytes();
        feedUpTo700();
        theHighestFirst();
        howManyBytes();
        latestFault();
        allAnew();
        CHECK.end();
    }
}
