/** Everything at its most at once: 8 nodes, 16 links, 9 tunnels, ways of 7 links, 40 acts, 8 sights. */
public final class EdgeFullTest {
    private static final Check CHECK = new Check();

    private EdgeFullTest() {
    }

    /**
     * From each node to the next one a short link (0, 2 .. 12) and a long one (1, 3 .. 13), and two that go
     * all the way at once (14, 15); tunnels 0 to 7 ask for 1 and hold as weak as can be, 8 for all of a link.
     */
    private static TunnelPlan full() {
        StringBuilder b = new StringBuilder("nodes 8;");
        for (int i = 0; i < 7; i++) {
            b.append("link ").append(i).append(' ').append(i + 1).append(" 1 9;");
            b.append("link ").append(i).append(' ').append(i + 1).append(" 2 9;");
        }
        b.append("link 0 7 99 9;link 0 7 98 9;");
        b.append("tunnel 0 7 1 7 7;".repeat(8)).append("tunnel 0 7 9 0 0;");
        TunnelPlan x = Tape.plan(b.toString());
        CHECK.row("nodes, links, tunnels", x::count, 8, 16, 9);
        for (int t = 0; t < 8; t++) {
            CHECK.same("set up", x.setUp(t), 0);
        }
        return x;
    }

    private static int power(int base, int exponent) {
        return exponent == 0 ? 1 : base * power(base, exponent - 1);
    }

    private static void eightStand() {
        TunnelPlan x = full();
        CHECK.row("count", i -> x.count(3 + i), 255, 65535, 56, 56, 0, 88);
        CHECK.row("worst", i -> x.count(9 + i), -1, 0);
        CHECK.row("the ninth pushes out all eight, who find other ways", i -> x.pushes(8, i), 255, 0);
        CHECK.row("planned, the ninth", i -> x.planned(8, i), 0, 2, 4, 6, 8, 10, 12, -1);
        CHECK.row("planned, the eighth", i -> x.planned(7, i), 1, 3, 5, 7, 9, 11, 13, -1);
        CHECK.row("eight are to be moved", x::order, 0, 1, 2, 3, 4, 5, 6, 7, -1);
        CHECK.same("none to break", x.toBreak(), 0);
    }

    private static TunnelPlan allStand() {
        TunnelPlan x = full();
        CHECK.same("eight are pushed out", x.setUp(8), 8);
        return x;
    }

    private static void nineStand() {
        TunnelPlan x = allStand();
        CHECK.row("count", i -> x.count(3 + i), 511, 65535, 7 * 17, 7 + 8 * 14, 0, 100);
        CHECK.row("by links 14 and 15 none is lost", i -> x.count(9 + i), -1, 0);
        CHECK.row("way of the ninth", i -> x.way(8, i), 0, 2, 4, 6, 8, 10, 12);
        CHECK.row("way of the eighth", i -> x.way(7, i), 1, 3, 5, 7, 9, 11, 13);
        CHECK.row("the ninth", i -> x.tunnel(8, i), 0, 7, 9, 0, 0, 0, 7, 1, 7, 7, 0);
        CHECK.row("the eighth", i -> x.tunnel(7, i), 0, 7, 1, 7, 7, 0, 7, 1, 7, 14, 7);
        CHECK.row("tunnels on links", i -> x.link(i, 7), 256, 255, 256, 255, 256, 255, 256, 255, 256, 255, 256, 255, 256, 255, 0, 0);
        CHECK.row("none to be moved", x::order, -1);
        CHECK.same("none to break", x.toBreak(), 0);
        CHECK.row("widest", p -> x.widest(0, 7, p), 9, 9, 9, 9, 9, 9, 9, 9);
        CHECK.row("flow", p -> x.flow(0, 7, p), 27, 27, 27, 27, 27, 27, 27, 19);
        CHECK.same("the same again", x.flow(0, 7, 7), 19);
        CHECK.same("none cuts", x.cuts(0, 7), 0);
        CHECK.same("distance", x.distance(0, 7), 7);
        CHECK.same("apart", x.apart(8), 21);
        CHECK.row("room", x::room, 9, 9, 9, 9, 9, 9, 9, 9, 9);
        CHECK.row("saved", x::saved, 256, 255, 256, 255, 256, 255, 256, 255, 256, 255, 256, 255, 256, 255, 0, 0);
        // 10 to 20 of the short ones, 8 and 10 to 20 of the long ones, 1 to 20 but for 9 of the others.
        CHECK.row("other", x::other, 7 * 11 + 7 * 12 + 2 * 19, 10, 1);
        CHECK.row("luck", t -> x.luck(t, 5), power(10, 8), power(10, 8), power(10, 8));
        CHECK.yes("years", x.years(3, 60, 0) >= 0);
        CHECK.row("as it was", i -> x.count(3 + i), 511, 65535, 7 * 17, 7 + 8 * 14, 0, 100);
    }

    private static void withoutTheTwo() {
        TunnelPlan x = allStand();
        CHECK.same("nobody is on 14", x.fail(14), 0);
        CHECK.same("nobody is on 15", x.fail(15), 0);
        CHECK.row("by link 0 the ninth takes link 1", i -> x.count(9 + i), 0, 8);
        CHECK.row("widest", p -> x.widest(0, 7, p), 9, 9, 9, 9, 9, 9, 9, 1);
        CHECK.row("flow", p -> x.flow(0, 7, p), 9, 9, 9, 9, 9, 9, 9, 1);
        CHECK.row("room", x::room, 2, 2, 2, 2, 2, 2, 2, 2, 9);
        CHECK.row("saved", x::saved, 256, 0, 256, 0, 256, 0, 256, 0, 256, 0, 256, 0, 256, 0, 0, 0);
        CHECK.row("luck", t -> x.luck(t, 5), power(75, 4), power(75, 4), power(75, 4));
        CHECK.same("eight are lost", x.fail(12), 8);
        CHECK.row("the ninth alone", i -> x.count(3 + i), 256, 65535 - 4096 - 16384 - 32768, 63, 8);
        CHECK.row("its way", i -> x.way(8, i), 0, 2, 4, 6, 8, 10, 13);
        CHECK.same("cuts", x.cuts(0, 7), 8192);
        CHECK.same("undone", x.undo(), 11);
        CHECK.row("as it was", i -> x.count(3 + i), 511, 65535 - 16384 - 32768, 7 * 17, 7 + 8 * 14);
    }

    /** Nine stand on one link, all wait at once, and all find another way. */
    private static void nineWait() {
        TunnelPlan x = Tape.plan("link 0 1 1 99;link 0 1 2 99;" + "tunnel 0 1 11 3 3;".repeat(9));
        for (int t = 0; t < 9; t++) {
            x.setUp(t);
        }
        CHECK.same("all on link 0", x.link(0, 7), 511);
        CHECK.same("none is lost", x.fail(0), 0);
        CHECK.same("all on link 1", x.link(1, 7), 511);
        CHECK.same("all are lost", x.fail(1), 9);
        CHECK.same("undone", x.undo(), 10);
        CHECK.same("all on link 1 again", x.link(1, 7), 511);
        CHECK.same("undone", x.undo(), 9);
        CHECK.same("all on link 0 again", x.link(0, 7), 511);
    }

    /** What is kept of the last tunnel, the last link, the fortieth act, the eighth sight. */
    private static void theLastOfEach() {
        TunnelPlan x = allStand();
        x.resize(8, 8);
        CHECK.same("undone", x.undo(), 9);
        CHECK.same("bandwidth of the ninth", x.tunnel(8, 2), 9);
        x.tearDown(8);
        CHECK.same("undone", x.undo(), 9);
        CHECK.same("the ninth stands", x.tunnel(8, 7), 1);
        x.fail(15);
        CHECK.same("undone", x.undo(), 9);
        CHECK.same("the last link is up", x.link(15, 5), 1);
        for (int i = 0; i < 8; i++) {
            x.see(0, 7, 9, i, true);
        }
        for (int i = 0; i < 41; i++) {
            x.resize(8, 8 + i % 2);
        }
        CHECK.same("with 8", x.tunnel(8, 2), 8);
        x.image();
        x.tearDown(8);
        x.fail(15);
        x.forget();
        for (int i = 0; i < 8; i++) {
            x.see(7, 0, 9, i, true);
        }
        for (int i = 0; i < 45; i++) {
            x.resize(7, 50 + i);
            x.resize(8, 50 + i);
        }
        CHECK.row("so it isn't", k -> x.other(2), 0);
        CHECK.yes("restored", x.restore());
        CHECK.row("count", i -> x.count(3 + i), 511, 65535, 7 * 16, 7 + 8 * 14);
        CHECK.row("acts, seen", i -> x.count(11 + i), 40, 8);
        CHECK.same("so it is", x.other(2), 1);
        CHECK.row("bandwidths", t -> x.tunnel(t, 2), 1, 1, 1, 1, 1, 1, 1, 1, 8);
        for (int left = 39; left >= 0; left--) {
            CHECK.same("left", x.undo(), left);
            CHECK.same("bandwidth of the ninth", x.tunnel(8, 2), left % 2 == 1 ? 9 : 8);
            CHECK.same("bandwidth of the eighth", x.tunnel(7, 2), 1);
        }
    }

    public static void main(String[] args) {
        eightStand();
        nineStand();
        withoutTheTwo();
        nineWait();
        theLastOfEach();
        CHECK.end();
    }
}
