/** Promises 5 to 11: count, link, pool, tunnel, way, best, pushes. */
public final class AskTest {
    private static final Check CHECK = new Check();

    private AskTest() {
    }

    private static void wrongArguments() {
        TunnelPlan x = Tape.plan("link 0 1 1 5;tunnel 0 1 3 2 2;");
        CHECK.noSuch("count(17)", () -> x.count(17));
        CHECK.noSuch("count(-1)", () -> x.count(-1));
        CHECK.noSuch("link(1, 0)", () -> x.link(1, 0));
        CHECK.noSuch("link(-1, 0)", () -> x.link(-1, 0));
        CHECK.noSuch("link(0, 8)", () -> x.link(0, 8));
        CHECK.noSuch("link(0, -1)", () -> x.link(0, -1));
        CHECK.noSuch("pool(1, 9), no such link first", () -> x.pool(1, 9));
        CHECK.illegal("pool(0, 8)", () -> x.pool(0, 8));
        CHECK.illegal("pool(0, -1)", () -> x.pool(0, -1));
        CHECK.noSuch("tunnel(1, 0)", () -> x.tunnel(1, 0));
        CHECK.noSuch("tunnel(0, 11)", () -> x.tunnel(0, 11));
        CHECK.noSuch("tunnel(0, -1)", () -> x.tunnel(0, -1));
        CHECK.noSuch("way(1, 0)", () -> x.way(1, 0));
        CHECK.noSuch("way(0, 0) of none", () -> x.way(0, 0));
        CHECK.noSuch("best(1, 0)", () -> x.best(1, 0));
        CHECK.noSuch("best(0, -1)", () -> x.best(0, -1));
        CHECK.noSuch("pushes(1, 0)", () -> x.pushes(1, 0));
        CHECK.noSuch("pushes(0, 2)", () -> x.pushes(0, 2));
        CHECK.noSuch("pushes(0, -1)", () -> x.pushes(0, -1));
        x.setUp(0);
        CHECK.same("way(0, 0)", x.way(0, 0), 0);
        CHECK.noSuch("way(0, 1)", () -> x.way(0, 1));
        CHECK.noSuch("way(0, -1)", () -> x.way(0, -1));
        CHECK.same("best(0, 1)", x.best(0, 1), -1);
        CHECK.same("best(0, MAX)", x.best(0, Integer.MAX_VALUE), -1);
    }

    private static void counts() {
        TunnelPlan x = Tape.plan("nodes 3;link 0 1 2 3;link 1 2 4 9;link 0 2 9 9;tunnel 0 2 1 3 3;tunnel 0 2 2 3 3;tunnel 0 2 3 3 3;");
        x.setUp(0);
        CHECK.row("one of three", x::count, 3, 3, 3, 1, 7, 2, 6, 0, 33, -1, 0);
        // By failing of 0 or 1 the tunnel goes over link 2: none is lost, so there is no worst link.
        x.setUp(2);
        // The third finds no room beside the first, if link 2 fails.
        CHECK.row("two of three", i -> x.count(i + 3), 5, 7, 5, 15, 0, 33, 2, 1, 2);
        x.fail(2);
        CHECK.row("one fails", i -> x.count(i + 3), 1, 3, 2, 6, 0, 33, 0, 1, 3);
        x.fail(0);
        CHECK.row("another one", i -> x.count(i + 3), 0, 2, 0, 0, 1, 0, -1, 0);
        x.fail(1);
        CHECK.row("all of them", i -> x.count(i + 3), 0, 0, 0, 0, -1, 0, -1, 0, 5);
    }

    private static void loadIsCutDown() {
        TunnelPlan x = Tape.plan("link 0 1 1 2;link 1 0 1 99;tunnel 0 1 1 3 3;tunnel 1 0 50 3 3;tunnel 1 0 1 3 3;");
        x.setUp(0);
        x.setUp(1);
        CHECK.same("50 of 99 and 1 of 2 are alike", x.count(7), 0);
        CHECK.same("50 in a hundred", x.count(8), 50);
        x.setUp(2);
        CHECK.same("51 of 99 is more", x.count(7), 1);
        CHECK.same("51 in a hundred", x.count(8), 51);
    }

    private static void worst() {
        // Link 1 carries two tunnels, link 0 one, and none has another way.
        TunnelPlan x = Tape.plan("nodes 3;link 0 1 1 9;link 1 2 1 9;tunnel 0 2 1 3 3;tunnel 1 2 1 3 3;");
        x.setUp(0);
        CHECK.row("alike", i -> x.count(i + 9), 0, 1);
        x.setUp(1);
        CHECK.row("worst", i -> x.count(i + 9), 1, 2);
        CHECK.same("nothing changed", x.count(3), 3);
        CHECK.same("no act", x.count(11), 2);
        // Tunnel 0 has another way, but pushes out tunnel 1 there, who has none: it is lost by link 0.
        TunnelPlan y = Tape.plan("link 0 1 1 5;link 0 1 2 5;tunnel 0 1 5 1 1;tunnel 0 1 5 6 6;");
        y.setUp(0);
        y.setUp(1);
        CHECK.row("pushed out", i -> y.count(i + 9), 0, 1);
    }

    private static void pools() {
        TunnelPlan x = Tape.plan("link 0 1 1 10;tunnel 0 1 2 3 0;tunnel 0 1 3 7 4;tunnel 0 1 4 7 7;");
        CHECK.row("all free", p -> x.pool(0, p), 10, 10, 10, 10, 10, 10, 10, 10);
        x.setUp(0);
        x.setUp(1);
        x.setUp(2);
        CHECK.row("by holds", p -> x.pool(0, p), 8, 8, 8, 8, 5, 5, 5, 1);
        CHECK.row("the link", i -> x.link(0, i), 0, 1, 1, 10, 0, 1, 9, 7);
        x.fail(0);
        CHECK.row("not up", i -> x.link(0, i), 0, 1, 1, 10, 0, 0, 0, 0);
        CHECK.same("pool of one that isn't up", x.pool(0, 7), 10);
    }

    private static void tunnels() {
        TunnelPlan x = Tape.plan("nodes 4;link 0 1 1 4;link 1 3 1 4;link 0 3 7 9 8;tunnel 0 3 3 5 2;tunnel 0 3 3 5 5;tunnel 0 3 3 5 5 8 2;");
        x.setUp(0);
        CHECK.row("the first", i -> x.tunnel(0, i), 0, 3, 3, 5, 2, 0, 7, 1, 2, 2, 0);
        x.setUp(1);
        CHECK.row("the second", i -> x.tunnel(1, i), 0, 3, 3, 5, 5, 0, 7, 1, 1, 7, 5);
        CHECK.row("one that has none", i -> x.tunnel(2, i), 0, 3, 3, 5, 5, 8, 2, 0, -1, -1, -1);
        CHECK.row("its way", i -> x.way(0, i), 0, 1);
        x.fail(0);
        // Stretch is against ways that are up, and both are on link 2 now.
        CHECK.same("stretch", x.tunnel(1, 10), 0);
        x.mend(0);
        CHECK.same("stretch again", x.tunnel(1, 10), 5);
    }

    private static void bestByRules() {
        TunnelPlan x = Tape.plan("nodes 4;link 0 3 5 9;link 0 1 2 9;link 1 3 2 9;tunnel 0 3 1 5 5;");
        CHECK.row("the least metric", i -> x.best(0, i), 1, 2, -1);
        TunnelPlan y = Tape.plan("nodes 4;link 0 1 2 9;link 1 3 2 9;link 0 3 4 1;tunnel 0 3 1 5 5;");
        CHECK.row("the fewest links", i -> y.best(0, i), 2, -1);
        TunnelPlan z = Tape.plan("nodes 4;link 0 1 2 9;link 1 3 2 4;link 0 2 2 5;link 2 3 2 6;link 0 2 2 5;tunnel 0 3 1 5 5;");
        CHECK.row("the widest, then the first", i -> z.best(0, i), 2, 3, -1);
        TunnelPlan w = Tape.plan("nodes 4;link 2 3 1 9;link 1 3 1 9;link 0 2 1 9;link 0 1 1 9;tunnel 0 3 1 5 5;");
        CHECK.row("the first by links one behind the other", i -> w.best(0, i), 2, 0, -1);
        TunnelPlan v = Tape.plan("nodes 4;link 0 1 1 9;link 1 3 1 9;link 0 3 9 9 4;tunnel 0 3 1 5 5 0 1;tunnel 0 3 1 5 5 4 1;tunnel 0 3 10 5 5;");
        CHECK.row("hops", i -> v.best(0, i), 2, -1);
        CHECK.row("hops and colours", i -> v.best(1, i), -1, -1);
        CHECK.row("too much", i -> v.best(2, i), -1, -1);
    }

    private static void longestWay() {
        String text = "nodes 8;link 0 1 1 9;link 1 2 1 9;link 2 3 1 9;link 3 4 1 9;link 4 5 1 9;link 5 6 1 9;link 6 7 1 9;"
                + "link 6 7 1 8;link 0 1 1 9;tunnel 0 7 1 5 5;tunnel 0 7 1 5 5 0 6;";
        TunnelPlan x = Tape.plan(text);
        CHECK.row("seven links", i -> x.best(0, i), 0, 1, 2, 3, 4, 5, 6, -1);
        CHECK.row("six hops", i -> x.best(1, i), -1);
        x.setUp(0);
        CHECK.row("its way", i -> x.way(0, i), 0, 1, 2, 3, 4, 5, 6);
        CHECK.noSuch("an eighth", () -> x.way(0, 7));
        CHECK.row("it", i -> x.tunnel(0, i + 7), 1, 7, 7, 0);
    }

    private static void bestCountsItsOwn() {
        TunnelPlan x = Tape.plan("link 0 1 1 5;link 0 1 1 4;tunnel 0 1 4 5 5;tunnel 0 1 1 5 5;");
        x.setUp(0);
        CHECK.same("it fits where it is", x.best(0, 0), 0);
        CHECK.same("the other one is wider for others", x.best(1, 0), 1);
        // Widths by pools at 7, even where the tunnel could push out who is there.
        TunnelPlan y = Tape.plan("link 0 1 1 9;link 0 1 1 8;tunnel 0 1 5 7 7;tunnel 0 1 3 0 0;");
        y.setUp(0);
        CHECK.same("the wider one", y.best(1, 0), 1);
    }

    private static void pushes() {
        TunnelPlan x = Tape.plan("link 0 1 1 9;tunnel 0 1 3 7 7;tunnel 0 1 3 7 6;tunnel 0 1 3 7 5;tunnel 0 1 3 4 4;tunnel 0 1 6 4 4;tunnel 0 1 9 4 4;tunnel 0 1 1 5 5;");
        CHECK.row("nobody is there", i -> x.pushes(3, i), 0, 0);
        x.setUp(0);
        x.setUp(1);
        x.setUp(2);
        CHECK.row("the least harm", i -> x.pushes(3, i), 1, 1);
        CHECK.row("two of them", i -> x.pushes(4, i), 3, 2);
        CHECK.row("all of them", i -> x.pushes(5, i), 7, 3);
        CHECK.row("not one with a hold as strong", i -> x.pushes(6, i), 1, 1);
        CHECK.row("one that stands", i -> x.pushes(0, i), 0, 0);
        x.fail(0);
        CHECK.row("none", i -> x.pushes(5, i), -1, -1);
        CHECK.same("nothing changed but by acts", x.count(11), 4);
    }

    private static void whomToPush() {
        // Harm 2 of one (hold 6) is as much as 1 and 1 of two (hold 7): the fewest are taken.
        TunnelPlan x = Tape.plan("link 0 1 1 8;tunnel 0 1 2 7 7;tunnel 0 1 2 7 7;tunnel 0 1 4 7 6;tunnel 0 1 4 0 0;tunnel 0 1 3 0 0;");
        x.setUp(0);
        x.setUp(1);
        x.setUp(2);
        CHECK.same("the fewest", x.pushes(3, 0), 4);
        // Harm 3 of one (hold 5) is more than 1 and 1 of two.
        TunnelPlan w = Tape.plan("link 0 1 1 8;tunnel 0 1 2 7 7;tunnel 0 1 2 7 7;tunnel 0 1 4 7 5;tunnel 0 1 4 0 0;");
        w.setUp(0);
        w.setUp(1);
        w.setUp(2);
        CHECK.same("the least harm, though they are two", w.pushes(3, 0), 3);
        TunnelPlan y = Tape.plan("link 0 1 1 9;tunnel 0 1 4 7 7;tunnel 0 1 3 7 7;tunnel 0 1 2 7 7;tunnel 0 1 3 0 0;tunnel 0 1 2 0 0;");
        y.setUp(0);
        y.setUp(1);
        y.setUp(2);
        CHECK.same("the least bandwidth", y.pushes(3, 0), 2);
        CHECK.same("the least bandwidth of all", y.pushes(4, 0), 4);
        TunnelPlan z = Tape.plan("link 0 1 1 9;tunnel 0 1 3 7 7;tunnel 0 1 3 7 7;tunnel 0 1 3 7 7;tunnel 0 1 1 0 0;tunnel 0 1 4 0 0;");
        z.setUp(0);
        z.setUp(1);
        z.setUp(2);
        CHECK.same("the least as bits", z.pushes(3, 0), 1);
        CHECK.same("the least as bits of two", z.pushes(4, 0), 3);
    }

    private static void pushesInAChain() {
        // 2 pushes 0 off link 0, 0 pushes 1 off link 1, and 1 finds link 2: all stand in the end.
        String text = "link 0 1 1 5;link 0 1 2 5;link 0 1 3 5;tunnel 0 1 5 3 3;tunnel 0 1 5 6 6;tunnel 0 1 5 1 1;";
        TunnelPlan x = Tape.plan(text);
        x.setUp(0);
        x.setUp(1);
        CHECK.row("they find ways", i -> x.pushes(2, i), 1, 0);
        x.fail(2);
        CHECK.row("the last doesn't", i -> x.pushes(2, i), 1, 1);
    }

    public static void main(String[] args) {
        wrongArguments();
        counts();
        loadIsCutDown();
        worst();
        pools();
        tunnels();
        bestByRules();
        longestWay();
        bestCountsItsOwn();
        pushes();
        whomToPush();
        pushesInAChain();
        CHECK.end();
    }
}
