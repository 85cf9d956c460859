/** Promises 1 to 4: a new object, feed, network, fault. */
public final class TextTest {
    private static final Check CHECK = new Check();

    private TextTest() {
    }

    private static void newObject() {
        TunnelPlan x = new TunnelPlan();
        CHECK.row("a new object's count", x::count, 2, 0, 0, 0, 0, 0, 0, -1, 0, -1, 0, 0, 0, 0, 0, 0, 0);
        CHECK.same("its fault", x.fault(), -1);
        CHECK.noSuch("its node 2", () -> x.distance(0, 2));
        CHECK.same("NONE", TunnelPlan.NONE, -1);
    }

    private static void feeding() {
        TunnelPlan x = new TunnelPlan();
        for (int i = 1; i <= 35; i++) {
            CHECK.same("feed " + i, x.feed(0x20202020, 0x0a0a0a0a, 0x20202020, 0x20202020, 0x20202020), 20 * i);
        }
        CHECK.same("feed beyond 700", x.feed(1, 2, 3, 4, 5), -1);
        CHECK.same("bytes then", x.count(13), 700);
        CHECK.same("700 blanks", x.network(700), 0);
        CHECK.same("bytes behind it", x.count(13), 0);
        // 'link', ' 0 1', ' 5 9', ' ;xx', of which the last two bytes are left away.
        x.feed(0x6c696e6b, 0x20302031, 0x20352039, 0x203b7878, 0xff00ff00);
        CHECK.same("highest byte first", x.network(14), 0);
        CHECK.row("the link", i -> x.link(0, i), 0, 1, 5, 9, 0, 1, 0, 0);
    }

    private static void lengths() {
        TunnelPlan x = Tape.plan("nodes 3;");
        x.feed(0, 0, 0, 0, 0);
        CHECK.illegal("network beyond the tape", () -> x.network(21));
        CHECK.illegal("network(-1)", () -> x.network(-1));
        CHECK.illegal("network(MIN)", () -> x.network(Integer.MIN_VALUE));
        CHECK.same("the tape is as it was", x.count(13), 20);
        CHECK.same("nothing was refused", x.count(14), 0);
        CHECK.same("network(1) of a 0 byte", x.network(1), 1);
        CHECK.same("the tape is empty though it was refused", x.count(13), 0);
        CHECK.same("one was refused", x.count(14), 1);
        CHECK.same("nodes are as they were", x.count(0), 3);
        CHECK.illegal("network(1) of an empty tape", () -> x.network(1));
        CHECK.same("fault is as it was", x.fault(), 0);
        CHECK.same("network(0)", x.network(0), 0);
        CHECK.same("two nodes then", x.count(0), 2);
        CHECK.same("no fault then", x.fault(), -1);
        CHECK.same("status stays", x.count(14), 1);
    }

    /** What stands on the tape behind the first n bytes is nothing to the text. */
    private static void cutShort() {
        TunnelPlan x = new TunnelPlan();
        for (int i = 0; i < 34; i++) {
            x.feed(0x20202020, 0x20202020, 0x20202020, 0x20202020, 0x20202020);
        }
        // 'nodes 45678;' up to the 5.
        x.feed(0x20202020, 0x20206e6f, 0x64657320, 0x34353637, 0x383b2020);
        CHECK.same("the number ends with the text", x.network(693), 1);
        CHECK.same("there it ends too soon", x.fault(), 693);
        for (int i = 0; i < 35; i++) {
            x.feed(0x39393939, 0x39393939, 0x39393939, 0x39393939, 0x39393939);
        }
        CHECK.same("700 digits", x.network(700), 1);
        for (int i = 0; i < 35; i++) {
            x.feed(0x6c6c6c6c, 0x6c6c6c6c, 0x6c6c6c6c, 0x6c6c6c6c, 0x6c6c6c6c);
        }
        CHECK.same("a word of 700 letters", x.network(700), 1);
        CHECK.same("at its beginning", x.fault(), 0);
    }

    private static void allAnew() {
        TunnelPlan x = Tape.plan("link 0 1 1 5;tunnel 0 1 3 2 2;");
        x.setUp(0);
        x.setUp(0);
        x.see(0, 1, 1, 1, true);
        x.see(0, 0, 1, 1, true);
        x.fail(0);
        x.image();
        CHECK.same("a text with a fault", Tape.load(x, "link 0 1 1 5;x"), 1);
        CHECK.row("all stays", i -> x.count(i + 11), 2, 1, 0, 1, 1, 1);
        CHECK.yes("the image stays", x.restore());
        CHECK.same("a text", Tape.load(x, "link 0 1 1 6;tunnel 0 1 3 2 2;"), 0);
        CHECK.row("all anew", i -> x.count(i + 3), 0, 1, 0, 0, 0, 0, -1, 0, 0, 0, 0, 1, 1, 1);
        CHECK.no("the image is gone", x.restore());
        CHECK.same("acts are gone", x.undo(), -1);
        CHECK.same("capacity", x.link(0, 3), 6);
    }

    private static void good(String text, int nodes, int links, int tunnels) {
        TunnelPlan x = new TunnelPlan();
        CHECK.same("network of " + text, Tape.load(x, text), 0);
        CHECK.same("fault of " + text, x.fault(), -1);
        CHECK.row("count of " + text, x::count, nodes, links, tunnels);
    }

    private static void bad(String text, int fault, int place) {
        TunnelPlan x = new TunnelPlan();
        CHECK.same("network of " + text, Tape.load(x, text), fault);
        CHECK.same("fault of " + text, x.fault(), place);
        CHECK.row("count of " + text, x::count, 2, 0, 0);
    }

    private static void goodTexts() {
        good("", 2, 0, 0);
        good(" \n ", 2, 0, 0);
        good("nodes 8;", 8, 0, 0);
        good("nodes0002;", 2, 0, 0);
        good("\nnodes\n2 ; link0 1 1 1;", 2, 1, 0);
        good("link 0 1 99 99 15;link 1 0 1 1 0;", 2, 2, 0);
        good("tunnel 0 1 99 7 7;tunnel 0 1 1 0 0 0;tunnel 1 0 1 7 0 15 1;tunnel 1 0 1 7 0 15 7;", 2, 0, 4);
        good("tunnel 0 1 1 1 1;link 0 1 1 1;tunnel 0 1 1 1 1;", 2, 1, 2);
        good("link 0 1 1 1;".repeat(16) + "tunnel 0 1 1 1 1;".repeat(9), 2, 16, 9);
        good("nodes 4;link 0003 0002 0001 0099 0015;", 4, 1, 0);
        TunnelPlan x = Tape.plan("nodes 4;link 3 1 9 8 7;tunnel 2 0 6 5 4 3 2;tunnel 0 3 1 7 7;tunnel 0 3 1 7 7 4;");
        CHECK.row("link", i -> x.link(0, i), 3, 1, 9, 8, 7, 1, 0, 0);
        CHECK.row("tunnel", i -> x.tunnel(0, i), 2, 0, 6, 5, 4, 3, 2, 0, -1, -1, -1);
        CHECK.row("without more", i -> x.tunnel(1, i), 0, 3, 1, 7, 7, 0, 7);
        CHECK.row("without hops", i -> x.tunnel(2, i), 0, 3, 1, 7, 7, 4, 7);
    }

    private static void tokensThatCantStand() {
        bad("x", 1, 0);
        bad(" links 0 1 1 1;", 1, 1);
        bad("Link 0 1 1 1;", 1, 0);
        bad("link\t0 1 1 1;", 1, 4);
        bad("link 0 1 1 1\r;", 1, 12);
        bad("link 0 -1 1 1;", 1, 7);
        bad("link 0 1 1;", 1, 10);
        bad("link 0 1 1 1 1 1;", 1, 15);
        bad("link 0 1 1 1 1 12345;", 1, 15);
        bad("link 0 1 1 1 link", 1, 13);
        bad("link 0 1 1 1", 1, 12);
        bad("link 0 1 1 1  ", 1, 14);
        bad("link", 1, 4);
        bad("link 0 1 1 1;;", 1, 13);
        bad(";", 1, 0);
        bad("7", 1, 0);
        bad("12345", 1, 0);
        bad("nodes 3", 1, 7);
        bad("nodes", 1, 5);
        bad("nodes ;", 1, 6);
        bad("nodes 3;nodes 3;", 1, 8);
        bad("link 0 1 1 1; nodes 3;", 1, 14);
        bad("tunnel 0 1 1 1;", 1, 14);
        bad("tunnel 0 1 1 1 1 1 1 1;", 1, 21);
        bad("\u00e9", 1, 0);
        bad("link 0 1 1 1;" + (char) 255, 1, 13);
    }

    private static void tooMuch() {
        bad("nodes 1;", 2, 6);
        bad("nodes 9;", 2, 6);
        bad("nodes 00003;", 2, 6);
        bad("nodes 0;x", 2, 6);
        bad("link 0 1 0 1;", 2, 9);
        bad("link 0 1 100 1;", 2, 9);
        bad("link 0 1 1 0;", 2, 11);
        bad("link 0 1 1 100;", 2, 11);
        bad("link 0 1 1 1 16;", 2, 13);
        bad("link 0 1 00001 1;", 2, 9);
        bad("link 0 1 4294967297 1;", 2, 9);
        bad("tunnel 0 1 0 1 1;", 2, 11);
        bad("tunnel 0 1 100 1 1;", 2, 11);
        bad("tunnel 0 1 1 8 1;", 2, 13);
        bad("tunnel 0 1 1 3 4;", 2, 15);
        bad("tunnel 0 1 1 7 8;", 2, 15);
        bad("tunnel 0 1 1 1 1 16;", 2, 17);
        bad("tunnel 0 1 1 1 1 0 0;", 2, 19);
        bad("tunnel 0 1 1 1 1 0 8;", 2, 19);
        bad("link 0 1 1 1;".repeat(16) + "link x", 2, 16 * 13);
        bad("tunnel 0 1 1 1 1;".repeat(9) + " tunnel", 2, 9 * 17 + 1);
    }

    private static void nodes() {
        bad("link 2 1 1 1;", 3, 5);
        bad("link 0 9999 1 1;", 3, 7);
        bad("nodes 8;link 0 8 1 1;", 3, 15);
        bad("tunnel 0 2 1 1 1;", 3, 9);
        bad("link 0 0 1 1;", 4, 7);
        bad("link 1 0001 1 1;", 4, 7);
        bad("tunnel 1 1 1 1 1;", 4, 9);
        bad("link 0 1 1 1;link 5 5 x", 3, 18);
    }

    /** A node of too many digits is too much, whether there is such a node, none, or the other one again. */
    private static void leastFaultOfOneToken() {
        bad("link 10000", 2, 5);
        bad("link 0 10000", 2, 7);
        bad("link 0 10000 1 1;", 2, 7);
        bad("tunnel 12345 2 1 1 1;", 2, 7);
        bad("tunnel 1 00002 1 1 1;", 2, 9);
        bad("link 0 99999999999999999999 1 1;", 2, 7);
        bad("link 00000 1 1 1;", 2, 5);
        bad("link 0 00001 1 1;", 2, 7);
        bad("link 0 00000 1 1;", 2, 7);
        bad("link 9999", 3, 5);
        bad("link 1000 10000", 3, 5);
        bad("link 2 2 1 1;", 3, 5);
    }

    public static void main(String[] args) {
        newObject();
        feeding();
        lengths();
        cutShort();
        allAnew();
        goodTexts();
        tokensThatCantStand();
        tooMuch();
        nodes();
        leastFaultOfOneToken();
        CHECK.end();
    }
}
