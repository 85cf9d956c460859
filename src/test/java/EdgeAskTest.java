/** The edges of what is asked: LOAD, WORST, STRETCH, PUSHES, WIDEST, APART, CUTS, MOST FLOW, DISTANCE, ROOM, SAVED. */
public final class EdgeAskTest {
    private static final Check CHECK = new Check();
    private static final String CHAIN = "nodes 8;link 0 1 99 9;link 1 2 99 8;link 2 3 99 7;link 3 4 99 9;link 4 5 99 9;link 5 6 99 9;link 6 7 99 9;";

    private EdgeAskTest() {
    }

    private static TunnelPlan standing(String text, int... tunnels) {
        TunnelPlan x = Tape.plan(text);
        for (int tunnel : tunnels) {
            CHECK.yes("tunnel " + tunnel + " of " + text + " can be set up", x.setUp(tunnel) >= 0);
        }
        return x;
    }

    // ---- count

    /** Each what from 0 to 16, and none else. */
    private static void counts() {
        TunnelPlan x = standing("nodes 5;link 0 1 4 10;link 1 2 3 20;link 2 0 2 30;tunnel 0 2 6 1 1;tunnel 2 0 3 1 1;tunnel 4 3 1 1 1;", 0, 1);
        x.see(0, 1, 1, 1, true);
        x.feed(0, 0, 0, 0, 0);
        // Taken 6, 6, 3 of 10, 20, 30; by link 0 or 1 tunnel 0 is lost, by link 2 tunnel 1.
        CHECK.row("count", x::count, 5, 3, 3, 3, 7, 15, 9, 0, 60, 0, 1, 2, 1, 20, 0, 0, 0);
        CHECK.noSuch("count(-1)", () -> x.count(-1));
        CHECK.noSuch("count(17)", () -> x.count(17));
    }

    private static void loadWithout() {
        CHECK.row("no links", i -> new TunnelPlan().count(7 + i), -1, 0);
        TunnelPlan x = Tape.plan("link 0 1 1 9;link 0 1 1 9;");
        CHECK.row("nothing taken: the least that is up", i -> x.count(7 + i), 0, 0);
        x.fail(0);
        CHECK.row("the least that is up", i -> x.count(7 + i), 1, 0);
        x.fail(1);
        CHECK.row("none up", i -> x.count(7 + i), -1, 0);
    }

    private static void loadOfLikeOnes() {
        TunnelPlan x = standing("link 0 1 1 9;link 1 0 1 4;link 0 1 2 4;link 1 0 2 4;tunnel 1 0 2 1 1;tunnel 0 1 2 1 1;tunnel 1 0 3 1 1;", 0);
        CHECK.row("50 of link 1", i -> x.count(7 + i), 1, 50);
        x.setUp(1);
        CHECK.row("22 of link 0", i -> x.count(7 + i), 1, 50);
        x.resize(1, 9);
        CHECK.row("100 of link 0", i -> x.count(7 + i), 0, 100);
        x.resize(1, 4);
        CHECK.row("44 of link 0", i -> x.count(7 + i), 1, 50);
        x.setUp(2);
        CHECK.row("75 of link 3", i -> x.count(7 + i), 3, 75);
        x.fail(3);
        CHECK.row("2 has no other one", i -> x.count(7 + i), 1, 50);
    }

    /** Cut down: 1 of 99 is 1 in a hundred, 98 of 99 is 98, 99 of 99 is 100. */
    private static void loadIsCutDown() {
        TunnelPlan x = standing("link 0 1 1 99;tunnel 0 1 1 1 1;", 0);
        int last = 1;
        for (int taken : new int[] {1, 2, 33, 34, 49, 50, 98, 99}) {
            if (taken != last) {
                x.resize(0, taken);
            }
            last = taken;
            CHECK.same(taken + " of 99", x.count(8), (int) (taken * 100L / 99));
        }
        TunnelPlan y = standing("link 0 1 1 3;tunnel 0 1 2 1 1;", 0);
        CHECK.same("2 of 3", y.count(8), 66);
        CHECK.same("1 of 1", standing("link 0 1 1 1;tunnel 0 1 1 1 1;", 0).count(8), 100);
        // 1 of 3 and 33 of 98 (33.67) are alike as cut down: the least link.
        TunnelPlan z = standing("link 0 1 1 3;link 1 0 1 98;tunnel 0 1 1 1 1;tunnel 1 0 33 1 1;tunnel 1 0 1 1 1;", 0, 1);
        CHECK.row("33 and 33", i -> z.count(7 + i), 0, 33);
        z.setUp(2);
        CHECK.row("33 and 34", i -> z.count(7 + i), 1, 34);
    }

    private static void worstWithout() {
        CHECK.row("no links", i -> new TunnelPlan().count(9 + i), -1, 0);
        TunnelPlan x = Tape.plan("link 0 1 1 9;link 0 1 2 9;tunnel 0 1 5 1 1;tunnel 0 1 5 1 1;");
        CHECK.row("none stands", i -> x.count(9 + i), -1, 0);
        x.setUp(0);
        CHECK.row("none would be lost", i -> x.count(9 + i), -1, 0);
        x.setUp(1);
        CHECK.row("one would be lost, by either: the least", i -> x.count(9 + i), 0, 1);
        x.fail(0);
        CHECK.row("by the one that is left", i -> x.count(9 + i), 1, 1);
        x.fail(1);
        CHECK.row("none is up", i -> x.count(9 + i), -1, 0);
    }

    private static void worstOfMost() {
        TunnelPlan x = standing("nodes 3;link 0 1 1 9;link 1 2 1 9;link 0 1 2 1;tunnel 1 2 1 1 1;tunnel 0 2 1 1 1;tunnel 0 2 1 1 1;", 0, 1, 2);
        // By link 0 one of 1 and 2 is lost, as link 2 holds one of them; by link 1 all three.
        CHECK.row("all three", i -> x.count(9 + i), 1, 3);
        CHECK.row("nothing changed", i -> x.count(3 + i), 7, 7, 5, 5);
        CHECK.same("no acts", x.count(11), 3);
    }

    // ---- link, tunnel, way

    private static void linkEdges() {
        TunnelPlan x = standing("link 0 1 7 9 5;link 1 0 8 6;tunnel 0 1 2 1 1;tunnel 0 1 3 1 1;", 0, 1);
        CHECK.row("link 0", i -> x.link(0, i), 0, 1, 7, 9, 5, 1, 5, 3);
        CHECK.row("link 1", i -> x.link(1, i), 1, 0, 8, 6, 0, 1, 0, 0);
        for (int what : new int[] {-1, 8}) {
            CHECK.noSuch("link(0, " + what + ")", () -> x.link(0, what));
        }
        for (int link : new int[] {-1, 2}) {
            CHECK.noSuch("link(" + link + ", 0)", () -> x.link(link, 0));
            CHECK.noSuch("pool(" + link + ", 0)", () -> x.pool(link, 0));
            CHECK.noSuch("pool(" + link + ", 8)", () -> x.pool(link, 8));
        }
        CHECK.row("pools", p -> x.pool(0, p), 9, 4, 4, 4, 4, 4, 4, 4);
        CHECK.illegal("pool(0, 8)", () -> x.pool(0, 8));
        CHECK.illegal("pool(0, -1)", () -> x.pool(0, -1));
        x.fail(0);
        CHECK.row("link 0 that isn't up", i -> x.link(0, i), 0, 1, 7, 9, 5, 0, 0, 0);
        CHECK.row("its pools", p -> x.pool(0, p), 9, 9, 9, 9, 9, 9, 9, 9);
        CHECK.illegal("its pool at 8", () -> x.pool(0, 8));
    }

    private static void tunnelEdges() {
        TunnelPlan x = standing(CHAIN + "tunnel 0 7 7 6 5 4 7;tunnel 7 0 1 1 1;", 0);
        CHECK.row("the longest way", i -> x.tunnel(0, i), 0, 7, 7, 6, 5, 4, 7, 1, 7, 693, 0);
        CHECK.row("none", i -> x.tunnel(1, i), 7, 0, 1, 1, 1, 0, 7, 0, -1, -1, -1);
        CHECK.row("its links", i -> x.way(0, i), 0, 1, 2, 3, 4, 5, 6);
        CHECK.noSuch("an eighth", () -> x.way(0, 7));
        CHECK.noSuch("a ninth", () -> x.way(0, 8));
        CHECK.noSuch("one below", () -> x.way(0, -1));
        CHECK.noSuch("of one that doesn't stand", () -> x.way(1, 0));
        for (int what : new int[] {-1, 11}) {
            CHECK.noSuch("tunnel(0, " + what + ")", () -> x.tunnel(0, what));
            CHECK.noSuch("tunnel(1, " + what + ")", () -> x.tunnel(1, what));
        }
    }

    /** Against any way of it, whether it fits or not, but by links that are up, by its colours and hops. */
    private static void stretch() {
        String links = "nodes 3;link 0 2 1 1;link 0 1 1 9;link 1 2 1 9;link 0 2 9 9;";
        TunnelPlan x = standing(links + "tunnel 0 2 2 1 1;", 0);
        CHECK.same("a way that it doesn't fit is 1", x.tunnel(0, 10), 1);
        x.fail(0);
        CHECK.same("it has the least one", x.tunnel(0, 10), 0);
        x.mend(0);
        x.fail(1);
        CHECK.row("on link 3", i -> x.tunnel(0, 8 + i), 1, 9, 8);
        x.fail(0);
        CHECK.same("the only one", x.tunnel(0, 10), 0);
        x.fail(3);
        CHECK.same("it doesn't stand", x.tunnel(0, 10), -1);
        TunnelPlan y = standing(links + "link 0 2 5 9;tunnel 0 2 2 1 1 0 1;", 0);
        CHECK.same("by one hop", y.tunnel(0, 10), 4);
        TunnelPlan z = standing("link 0 1 1 1 2;link 0 1 3 1 1;link 0 1 8 9;tunnel 0 1 2 1 1 2;", 0);
        CHECK.same("by its colours", z.tunnel(0, 10), 5);
    }

    // ---- pushes

    private static void pushes() {
        TunnelPlan x = Tape.plan("link 0 1 1 5;link 0 1 2 5;tunnel 0 1 5 1 1;tunnel 0 1 5 6 6;tunnel 0 1 6 0 0;");
        CHECK.row("no best way", i -> x.pushes(2, i), -1, -1);
        CHECK.row("nobody", i -> x.pushes(0, i), 0, 0);
        x.setUp(1);
        CHECK.row("one, who finds a way", i -> x.pushes(0, i), 2, 0);
        CHECK.row("it stands, has its best way", i -> x.pushes(1, i), 0, 0);
        x.fail(1);
        CHECK.row("one, who finds none", i -> x.pushes(0, i), 2, 1);
        CHECK.row("nothing changed", i -> x.count(3 + i), 2, 1, 5, 1);
        CHECK.same("no acts", x.count(11), 2);
        CHECK.row("nothing refused", i -> x.count(14 + i), 0, 0, 0);
        // It stands elsewhere, and would push out who is where it would go.
        TunnelPlan y = Tape.plan("link 0 1 1 5;link 0 1 2 5;tunnel 0 1 5 1 1;tunnel 0 1 5 6 6;");
        y.fail(0);
        y.setUp(0);
        y.mend(0);
        y.setUp(1);
        CHECK.row("it stands, they change places", i -> y.pushes(0, i), 2, 0);
        CHECK.noSuch("another what", () -> y.pushes(0, 2));
        CHECK.noSuch("a what below", () -> y.pushes(0, -1));
    }

    // ---- of nodes

    private static void widest() {
        for (int to = 1; to <= 7; to++) {
            CHECK.same("from 0 to " + to, Tape.plan(CHAIN).widest(0, to, 7), to == 1 ? 9 : to == 2 ? 8 : 7);
        }
        CHECK.same("99", Tape.plan("link 0 1 1 99;").widest(0, 1, 0), 99);
        CHECK.same("1", Tape.plan("link 0 1 1 1;").widest(0, 1, 0), 1);
        CHECK.same("whatever the colours", Tape.plan("link 0 1 1 9 15;").widest(0, 1, 0), 9);
        CHECK.same("the wider one", Tape.plan("link 0 1 1 8;link 0 1 9 9;").widest(0, 1, 0), 9);
        CHECK.same("not both at once", Tape.plan("link 0 1 1 8;link 0 1 1 8;").widest(0, 1, 0), 8);
        TunnelPlan x = standing("link 0 1 1 9;tunnel 0 1 9 5 5;", 0);
        CHECK.row("all taken by a hold of 5", p -> x.widest(0, 1, p), 9, 9, 9, 9, 9, 0, 0, 0);
        CHECK.same("none back", x.widest(1, 0, 0), 0);
        x.resize(0, 8);
        CHECK.same("1 is left", x.widest(0, 1, 5), 1);
        x.fail(0);
        CHECK.same("none up", x.widest(0, 1, 0), 0);
        CHECK.illegal("both are one", () -> x.widest(1, 1, 7));
        CHECK.illegal("at 8", () -> x.widest(0, 1, 8));
        CHECK.illegal("at -1", () -> x.widest(0, 1, -1));
        CHECK.noSuch("node 2", () -> x.widest(0, 2, 8));
        CHECK.noSuch("node -1", () -> x.widest(-1, -1, 8));
    }

    private static void flow() {
        CHECK.same("seven links", Tape.plan(CHAIN).flow(0, 7, 7), 7);
        CHECK.same("both at once", Tape.plan("link 0 1 1 8;link 0 1 1 8;").flow(0, 1, 0), 16);
        CHECK.same("the most", Tape.plan("link 0 1 1 99;".repeat(16)).flow(0, 1, 0), 16 * 99);
        CHECK.same("what is sent back counts for nothing", Tape.plan("link 0 1 1 8;link 1 0 1 8;").flow(0, 1, 0), 8);
        CHECK.same("whatever the colours", Tape.plan("link 0 1 1 9 15;").flow(0, 1, 0), 9);
        TunnelPlan x = standing("link 0 1 1 9;link 0 1 2 4;tunnel 0 1 9 5 5;", 0);
        CHECK.row("all of one taken by a hold of 5", p -> x.flow(0, 1, p), 13, 13, 13, 13, 13, 4, 4, 4);
        CHECK.same("none back", x.flow(1, 0, 0), 0);
        x.fail(1);
        CHECK.row("one is up", p -> x.flow(0, 1, p), 9, 9, 9, 9, 9, 0, 0, 0);
        CHECK.illegal("both are one", () -> x.flow(0, 0, 7));
        CHECK.illegal("at 8", () -> x.flow(0, 1, 8));
        CHECK.illegal("at -1", () -> x.flow(0, 1, -1));
        CHECK.noSuch("node 2", () -> x.flow(2, 2, 8));
        CHECK.noSuch("node -1", () -> x.flow(0, -1, 8));
    }

    /** MOST FLOW is as much as the least that cuts one off from the other one: all sets of nodes tried out. */
    private static void flowIsTheLeastCut() {
        int s = 4711;
        for (int run = 0; run < 300; run++) {
            int nodes = 3 + run % 6;
            int links = 5 + run % 12;
            int[] ends = new int[2 * links];
            int[] capacity = new int[links];
            StringBuilder b = new StringBuilder("nodes ").append(nodes).append(';');
            for (int i = 0; i < links; i++) {
                s = s * 1103515245 + 12345;
                ends[2 * i] = (s >>> 16) % nodes;
                ends[2 * i + 1] = (ends[2 * i] + 1 + (s >>> 8 & 255) % (nodes - 1)) % nodes;
                capacity[i] = 1 + (s >>> 24 & 7);
                b.append("link ").append(ends[2 * i]).append(' ').append(ends[2 * i + 1]).append(" 1 ").append(capacity[i]).append(';');
            }
            TunnelPlan x = Tape.plan(b.toString());
            for (int from = 0; from < nodes; from++) {
                for (int to = 0; to < nodes; to++) {
                    if (from != to) {
                        CHECK.same("from " + from + " to " + to + " of " + b, x.flow(from, to, 7), leastCut(from, to, nodes, ends, capacity));
                    }
                }
            }
        }
    }

    private static int leastCut(int from, int to, int nodes, int[] ends, int[] capacity) {
        int least = Integer.MAX_VALUE;
        for (int set = 0; set < 1 << nodes; set++) {
            if ((set >> from & 1) == 1 && (set >> to & 1) == 0) {
                int sum = 0;
                for (int i = 0; i < capacity.length; i++) {
                    sum += (set >> ends[2 * i] & 1) == 1 && (set >> ends[2 * i + 1] & 1) == 0 ? capacity[i] : 0;
                }
                least = Math.min(least, sum);
            }
        }
        return least;
    }

    /** Seven links in a row, from any node to any other one, the nodes in any turn. */
    private static void widestOverEachNode() {
        for (int turn = 0; turn < 8; turn++) {
            for (int step : new int[] {1, 3, 5, 7}) {
                StringBuilder b = new StringBuilder("nodes 8;");
                for (int i = 0; i < 7; i++) {
                    b.append("link ").append((turn + i * step) % 8).append(' ').append((turn + (i + 1) * step) % 8).append(" 3 ").append(20 - i).append(';');
                }
                TunnelPlan x = Tape.plan(b.toString());
                for (int i = 0; i < 8; i++) {
                    for (int k = 0; k < 8; k++) {
                        if (i != k) {
                            int from = (turn + i * step) % 8;
                            int to = (turn + k * step) % 8;
                            CHECK.same("widest " + b, x.widest(from, to, 0), k < i ? 0 : 21 - k);
                            CHECK.same("flow " + b, x.flow(from, to, 0), k < i ? 0 : 21 - k);
                            CHECK.same("distance " + b, x.distance(from, to), k < i ? -1 : 3 * (k - i));
                            CHECK.same("cuts " + b, x.cuts(from, to), k < i ? 0 : (1 << k) - (1 << i));
                        }
                    }
                }
            }
        }
    }

    private static void distance() {
        for (int from = 0; from <= 7; from++) {
            for (int to = 0; to <= 7; to++) {
                CHECK.same("from " + from + " to " + to, Tape.plan(CHAIN).distance(from, to), to < from ? -1 : 99 * (to - from));
            }
        }
        TunnelPlan x = standing("link 0 1 1 1 15;link 0 1 2 9;tunnel 0 1 1 1 1;", 0);
        CHECK.same("whatever it has, whatever its colours", x.distance(0, 1), 1);
        x.fail(0);
        CHECK.same("by what is up", x.distance(0, 1), 2);
        x.fail(1);
        CHECK.same("none", x.distance(0, 1), -1);
        CHECK.row("to itself", n -> x.distance(n, n), 0, 0);
        CHECK.noSuch("a node that there isn't, to itself", () -> x.distance(2, 2));
        CHECK.noSuch("one below", () -> x.distance(-1, -1));
    }

    private static void cuts() {
        TunnelPlan x = Tape.plan(CHAIN + "link 3 4 1 1;");
        CHECK.same("all but those side by side", x.cuts(0, 7), 1 + 2 + 4 + 16 + 32 + 64);
        CHECK.same("of those on the way", x.cuts(1, 3), 6);
        CHECK.same("none of two", x.cuts(3, 4), 0);
        CHECK.same("there is none anyway", x.cuts(7, 0), 0);
        x.fail(3);
        CHECK.same("the other one", x.cuts(3, 4), 128);
        x.fail(7);
        CHECK.same("there is none any more", x.cuts(0, 7), 0);
        CHECK.same("up to there", x.cuts(0, 3), 7);
        CHECK.illegal("both are one", () -> x.cuts(7, 7));
        CHECK.noSuch("node 8", () -> x.cuts(8, 8));
        CHECK.noSuch("node -1", () -> x.cuts(-1, 0));
        CHECK.same("the last link", Tape.plan("nodes 3;" + "link 0 1 1 1;".repeat(15) + "link 1 2 1 1;").cuts(0, 2), 32768);
    }

    // ---- of tunnels

    private static void apart() {
        CHECK.same("two side by side", Tape.plan("link 0 1 98 1;link 0 1 99 1;tunnel 0 1 9 1 1;").apart(0), 197);
        CHECK.same("the least two of three", Tape.plan("link 0 1 9 1;link 0 1 7 1;link 0 1 8 1;tunnel 0 1 9 1 1;").apart(0), 15);
        CHECK.same("one way alone", Tape.plan("link 0 1 9 1;tunnel 0 1 1 1 1;").apart(0), -1);
        CHECK.same("none", Tape.plan("tunnel 0 1 1 1 1;").apart(0), -1);
        CHECK.same("by one node, but no link in common", Tape.plan("nodes 3;link 0 1 1 1;link 0 1 2 1;link 1 2 3 1;link 1 2 4 1;tunnel 0 2 1 1 1;").apart(0), 10);
        CHECK.same("a link that both must have", Tape.plan("nodes 3;link 0 1 1 1;link 0 1 2 1;link 1 2 3 1;tunnel 0 2 1 1 1;").apart(0), -1);
        CHECK.same("a colour", Tape.plan("link 0 1 9 1 1;link 0 1 7 1;tunnel 0 1 9 1 1 1;").apart(0), -1);
        String two = "nodes 3;link 0 1 1 1;link 1 2 1 1;link 0 2 9 1;";
        CHECK.same("two hops", Tape.plan(two + "tunnel 0 2 1 1 1 0 2;").apart(0), 11);
        CHECK.same("one hop", Tape.plan(two + "tunnel 0 2 1 1 1 0 1;").apart(0), -1);
        TunnelPlan x = standing(two + "tunnel 0 2 1 1 1;", 0);
        CHECK.same("whatever it has", x.apart(0), 11);
        x.fail(2);
        CHECK.same("not up", x.apart(0), -1);
        // Not the two of like length (14), but the shortest and the longest one (13), whichever is looked at first.
        for (int turn = 0; turn < 6; turn++) {
            String[] six = {"link 0 1 1 1;", "link 1 2 1 1;", "link 2 3 1 1;", "link 1 3 6 1;", "link 0 2 6 1;", "link 0 3 10 1;"};
            StringBuilder b = new StringBuilder("nodes 4;");
            for (int i = 0; i < 6; i++) {
                b.append(six[(turn + i) % 6]);
            }
            CHECK.same("the shortest and the longest " + turn, Tape.plan(b + "tunnel 0 3 1 1 1;").apart(0), 13);
        }
        // The same, where the longest one ends by link 0.
        CHECK.same("link 0 in the longest", Tape.plan("nodes 5;link 4 3 5 1;link 0 1 1 1;link 1 2 1 1;link 2 3 1 1;link 1 3 6 1;link 0 2 6 1;link 0 4 5 1;"
                + "tunnel 0 3 1 1 1;").apart(0), 13);
        CHECK.same("one hop, and link 0 is none of both", Tape.plan("link 1 0 1 1;link 0 1 1 1;link 0 1 2 1;tunnel 0 1 1 1 1 0 1;").apart(0), 3);
        // Seven links and one: with seven hops alone.
        CHECK.same("seven hops", Tape.plan(CHAIN + "link 0 7 99 1;tunnel 0 7 1 1 1;").apart(0), 792);
        CHECK.same("six hops", Tape.plan(CHAIN + "link 0 7 99 1;tunnel 0 7 1 1 1 0 6;").apart(0), -1);
        CHECK.noSuch("tunnel 1", () -> x.apart(1));
        CHECK.noSuch("tunnel -1", () -> x.apart(-1));
    }

    /** No NODE twice: round a ring it comes back, at the first node, on the way, or at the last one, whatever their numbers. */
    private static void apartBesideRings() {
        int[][] numbers = {{0, 1, 2, 3}, {3, 2, 1, 0}, {0, 2, 4, 6}, {7, 5, 3, 1}, {4, 7, 0, 2}};
        int[][] rings = {{1, 0}, {2, 1, 1, 2}, {3, 2}, {2, 0, 3, 1, 3, 0}};
        for (int[] n : numbers) {
            for (int[] ring : rings) {
                StringBuilder b = new StringBuilder("nodes 8;");
                for (int i = 0; i < 3; i++) {
                    b.append("link ").append(n[i]).append(' ').append(n[i + 1]).append(" 1 1;");
                }
                for (int i = 0; i < ring.length; i += 2) {
                    b.append("link ").append(n[ring[i]]).append(' ').append(n[ring[i + 1]]).append(" 1 1;");
                }
                String tunnel = "tunnel " + n[0] + " " + n[3] + " 1 1 1;";
                CHECK.same("one way, and " + b, Tape.plan(b + tunnel).apart(0), -1);
                CHECK.same("two ways, and " + b, Tape.plan(b + "link " + n[0] + " " + n[3] + " 50 1;" + tunnel).apart(0), 53);
            }
        }
    }

    private static void room() {
        CHECK.same("99", Tape.plan("link 0 1 1 99;tunnel 0 1 1 1 1;").room(0), 99);
        CHECK.same("1", Tape.plan("link 0 1 1 1;tunnel 0 1 99 1 1;").room(0), 1);
        CHECK.same("none", Tape.plan("link 1 0 1 1;tunnel 0 1 1 1 1;").room(0), 0);
        CHECK.same("the widest, though another one is best", Tape.plan("link 0 1 1 8;link 0 1 9 9;tunnel 0 1 1 1 1;").room(0), 9);
        TunnelPlan x = standing("link 0 1 1 9;tunnel 0 1 9 4 4;tunnel 0 1 1 4 4;tunnel 0 1 1 3 3;", 0);
        CHECK.row("its own, beside it, above it", x::room, 9, 0, 9);
        x.resize(0, 8);
        CHECK.row("one less", x::room, 9, 1, 9);
        x.fail(0);
        CHECK.row("not up", x::room, 0, 0, 0);
        CHECK.same("by two hops", Tape.plan("nodes 3;link 0 1 1 9;link 1 2 1 8;link 0 2 1 5;tunnel 0 2 1 1 1 0 2;").room(0), 8);
        CHECK.same("by one hop", Tape.plan("nodes 3;link 0 1 1 9;link 1 2 1 8;link 0 2 1 5;tunnel 0 2 1 1 1 0 1;").room(0), 5);
        CHECK.same("a colour", Tape.plan("link 0 1 1 9 8;tunnel 0 1 1 1 1 8;").room(0), 0);
        CHECK.noSuch("tunnel 3", () -> x.room(3));
        CHECK.noSuch("tunnel -1", () -> x.room(-1));
    }

    private static void saved() {
        TunnelPlan x = standing("link 0 1 1 9;link 0 1 2 4;tunnel 0 1 4 4 4;tunnel 0 1 4 4 4;tunnel 0 1 1 4 4;", 0, 1, 2);
        CHECK.same("each by itself", x.saved(0), 7);
        CHECK.same("nobody is on it", x.saved(1), 0);
        x.tearDown(2);
        x.resize(0, 5);
        CHECK.same("5 of 4 don't fit", x.saved(0), 2);
        x.fail(1);
        CHECK.same("nowhere to go", x.saved(0), 0);
        CHECK.same("it isn't up", x.saved(1), 0);
        x.fail(0);
        CHECK.same("nor this", x.saved(0), 0);
        CHECK.noSuch("link 2", () -> x.saved(2));
        CHECK.noSuch("link -1", () -> x.saved(-1));
        // The others stay as they are, those on the link, too: 0 holds what 1 would need on link 1.
        TunnelPlan y = standing("nodes 3;link 0 1 1 9;link 1 2 1 5;link 0 2 3 5;link 0 1 9 9;tunnel 0 2 3 4 4;tunnel 0 2 3 4 4;", 0, 1);
        CHECK.row("where they are", t -> y.way(t, 0), 0, 2);
        CHECK.same("0 by the other link to node 1", y.saved(0), 1);
        CHECK.same("1 has none beside 0", y.saved(2), 0);
        CHECK.same("0 has none beside 1", y.saved(1), 0);
        // One that is weaker could be pushed out, so it fits.
        TunnelPlan z = standing("link 0 1 1 5;link 0 1 2 5;tunnel 0 1 5 4 4;tunnel 0 1 5 5 5;", 0, 1);
        CHECK.same("it could push out 1", z.saved(0), 1);
        CHECK.same("it couldn't push out 0", z.saved(1), 0);
    }

    public static void main(String[] args) {
        counts();
        loadWithout();
        loadOfLikeOnes();
        loadIsCutDown();
        worstWithout();
        worstOfMost();
        linkEdges();
        tunnelEdges();
        stretch();
        pushes();
        widest();
        flow();
        flowIsTheLeastCut();
        widestOverEachNode();
        distance();
        cuts();
        apart();
        apartBesideRings();
        room();
        saved();
        CHECK.end();
    }
}
