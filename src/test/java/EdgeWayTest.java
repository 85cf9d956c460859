/** The edges of WAY, POOL, FITS, BEST WAY and SET UP (what stands behind '==== 2.' in the document). */
public final class EdgeWayTest {
    private static final Check CHECK = new Check();

    private EdgeWayTest() {
    }

    /** So many links in a row, from node 0 on, and what comes behind them. */
    private static TunnelPlan chain(int links, String rest) {
        StringBuilder b = new StringBuilder("nodes 8;");
        for (int i = 0; i < links; i++) {
            b.append("link ").append(i).append(' ').append(i + 1).append(" 2 9;");
        }
        return Tape.plan(b + rest);
    }

    /** Sets up each of them, one behind the other. */
    private static TunnelPlan standing(String text, int... tunnels) {
        TunnelPlan x = Tape.plan(text);
        for (int tunnel : tunnels) {
            CHECK.yes("tunnel " + tunnel + " of " + text + " can be set up", x.setUp(tunnel) >= 0);
        }
        return x;
    }

    private static void best(String what, TunnelPlan x, int tunnel, int... links) {
        for (int i = 0; i < links.length; i++) {
            CHECK.same(what + ": link " + i, x.best(tunnel, i), links[i]);
        }
        CHECK.same(what + ": no more", x.best(tunnel, links.length), -1);
    }

    // ---- WAY

    /** All links are UP at first, none of the tunnels stands. */
    private static void atFirst() {
        TunnelPlan x = chain(7, "tunnel 0 7 1 1 1;");
        CHECK.row("links", i -> x.link(i, 5), 1, 1, 1, 1, 1, 1, 1);
        CHECK.same("up", x.count(4), 127);
        CHECK.same("standing", x.count(3), 0);
        CHECK.same("it", x.tunnel(0, 7), 0);
        CHECK.noSuch("its way", () -> x.way(0, 0));
    }

    private static void onlyByLinksThatAreUp() {
        for (int link = 0; link < 7; link++) {
            TunnelPlan x = chain(7, "tunnel 0 7 1 1 1;");
            CHECK.same("best", x.best(0, 0), 0);
            x.fail(link);
            best("without " + link, x, 0);
            CHECK.same("it can't be set up", x.setUp(0), -1);
            x.mend(link);
            best("with all of them", x, 0, 0, 1, 2, 3, 4, 5, 6);
        }
    }

    /** Links go one way. */
    private static void oneWay() {
        TunnelPlan x = chain(1, "tunnel 1 0 1 1 1;tunnel 0 1 1 1 1;");
        best("against it", x, 0);
        best("along it", x, 1, 0);
        CHECK.same("distance against it", x.distance(1, 0), -1);
        CHECK.same("widest against it", x.widest(1, 0, 7), 0);
        CHECK.same("flow against it", x.flow(1, 0, 7), 0);
    }

    /** No link that has a colour that it shuns: all colours by all that may be shunned. */
    private static void colours() {
        for (int colours = 0; colours <= 15; colours++) {
            for (int shuns = 0; shuns <= 15; shuns++) {
                TunnelPlan x = Tape.plan("link 0 1 3 9 " + colours + ";tunnel 0 1 1 1 1 " + shuns + ";");
                boolean open = (colours & shuns) == 0;
                CHECK.same(colours + " by " + shuns, x.best(0, 0), open ? 0 : -1);
                CHECK.same("room of " + colours + " by " + shuns, x.room(0), open ? 9 : 0);
                CHECK.same("luck of " + colours + " by " + shuns, x.luck(0, 0), open ? 10 : 0);
            }
        }
    }

    /** As many links as HOPS, and no more. */
    private static void hops() {
        for (int links = 1; links <= 7; links++) {
            for (int hops = 1; hops <= 7; hops++) {
                TunnelPlan x = chain(links, "tunnel 0 " + links + " 1 1 1 0 " + hops + ";");
                boolean there = links <= hops;
                String what = links + " links by " + hops + " hops";
                CHECK.same(what, x.best(0, links - 1), there ? links - 1 : -1);
                CHECK.same("room of " + what, x.room(0), there ? 9 : 0);
                CHECK.same("luck of " + what, x.luck(0, 0), there ? (int) Math.pow(10, links) : 0);
                CHECK.same("planned of " + what, x.planned(0, 0), there ? 0 : -1);
                CHECK.same("set up of " + what, x.setUp(0), there ? 0 : -1);
            }
            best("7 hops without", chain(links, "tunnel 0 " + links + " 1 1 1;"), 0, java.util.stream.IntStream.range(0, links).toArray());
        }
        // The least metric has more links than it may have: the short one is all that is left.
        TunnelPlan x = Tape.plan("nodes 4;link 0 1 1 9;link 1 2 1 9;link 2 3 1 9;link 0 3 90 9;link 1 3 50 9;"
                + "tunnel 0 3 1 1 1 0 1;tunnel 0 3 1 1 1 0 2;tunnel 0 3 1 1 1 0 3;");
        best("one hop", x, 0, 3);
        best("two hops", x, 1, 0, 4);
        best("three hops", x, 2, 0, 1, 2);
    }

    /** The whole of it: each link of it, all that it asks for. */
    private static void takesItsBandwidth() {
        TunnelPlan x = chain(7, "tunnel 2 5 4 1 1;");
        x.setUp(0);
        CHECK.row("taken", i -> x.link(i, 6), 0, 0, 4, 4, 4, 0, 0);
        CHECK.row("tunnels on it", i -> x.link(i, 7), 0, 0, 1, 1, 1, 0, 0);
        CHECK.row("pools", i -> x.pool(i, 7), 9, 9, 5, 5, 5, 9, 9);
        CHECK.row("its way", i -> x.way(0, i), 2, 3, 4);
        CHECK.noSuch("a fourth", () -> x.way(0, 3));
        CHECK.row("all of it", i -> x.count(5 + i), 12, 6);
        x.tearDown(0);
        CHECK.row("taken then", i -> x.link(i, 6), 0, 0, 0, 0, 0, 0, 0);
    }

    // ---- POOL and FITS

    /** HOLD p or stronger: at its hold it counts, at the next stronger one it doesn't. */
    private static void poolsByHold() {
        for (int hold = 0; hold <= 7; hold++) {
            TunnelPlan x = standing("link 0 1 1 9;tunnel 0 1 4 7 " + hold + ";", 0);
            for (int p = 0; p <= 7; p++) {
                CHECK.same("pool at " + p + " with hold " + hold, x.pool(0, p), p >= hold ? 5 : 9);
                CHECK.same("widest at " + p + " with hold " + hold, x.widest(0, 1, p), p >= hold ? 5 : 9);
                CHECK.same("flow at " + p + " with hold " + hold, x.flow(0, 1, p), p >= hold ? 5 : 9);
            }
        }
    }

    /** By its BANDWIDTH: what the pool is fits, one more doesn't; 0 is no bandwidth. */
    private static void fitsByBandwidth() {
        for (int capacity : new int[] {1, 2, 50, 98, 99}) {
            String link = "link 0 1 1 " + capacity + ";";
            best("as much", Tape.plan(link + "tunnel 0 1 " + capacity + " 1 1;"), 0, 0);
            if (capacity < 99) {
                best("one more", Tape.plan(link + "tunnel 0 1 " + (capacity + 1) + " 1 1;"), 0);
            }
            TunnelPlan x = standing(link + "tunnel 0 1 " + capacity + " 1 1;tunnel 0 1 1 1 1;", 0);
            CHECK.same("nothing is left", x.pool(0, 1), 0);
            best("nothing is left", x, 1);
            CHECK.same("set up", x.setUp(1), -1);
        }
    }

    /** By SETUP against HOLD: who holds as strong isn't pushed out, who holds weaker is. */
    private static void setupAgainstHold() {
        for (int hold = 0; hold <= 7; hold++) {
            for (int setup = 0; setup <= 7; setup++) {
                String text = "link 0 1 1 5;tunnel 0 1 3 7 " + hold + ";tunnel 0 1 3 " + setup + " 0;tunnel 0 1 2 " + setup + " 0;";
                TunnelPlan x = standing(text, 0);
                boolean weaker = hold > setup;
                String what = "setup " + setup + " against hold " + hold;
                CHECK.same("best of " + what, x.best(1, 0), weaker ? 0 : -1);
                CHECK.same("room by " + what, x.room(1), weaker ? 5 : 2);
                CHECK.row("pushes by " + what, i -> x.pushes(1, i), weaker ? 1 : -1, weaker ? 1 : -1);
                CHECK.row("pushes by 2, " + what, i -> x.pushes(2, i), 0, 0);
                CHECK.same("setUp by " + what, x.setUp(1), weaker ? 1 : -1);
                CHECK.same("standing by " + what, x.count(3), weaker ? 2 : 1);
                CHECK.same("refused by " + what, x.count(15), weaker ? 0 : 1);
                CHECK.same("2 beside it, " + what, x.setUp(2), 0);
                CHECK.same("all of the link", x.pool(0, 7), 0);
            }
        }
    }

    /** What it has there itself is counted back: by FITS, by the least POOL, by ROOM. */
    private static void itsOwnCountedBack() {
        TunnelPlan x = standing("link 0 1 1 5;tunnel 0 1 5 3 3;", 0);
        best("all of the link is its own", x, 0, 0);
        CHECK.same("room", x.room(0), 5);
        CHECK.same("it has its best way", x.move(0), -1);
        CHECK.same("down", x.resize(0, 1), 5);
        CHECK.same("and up", x.resize(0, 5), 1);
        CHECK.same("not above the link", x.resize(0, 6), -1);
        // Side by side 5 and 4 of 5 are free for 0, which is where 5 are: it stays.
        TunnelPlan y = standing("link 0 1 1 5;link 0 1 1 5;tunnel 0 1 3 3 3;tunnel 0 1 1 3 3;", 1, 0);
        CHECK.row("where they are", t -> y.way(t, 0), 1, 0);
        best("the widest with its own", y, 0, 1);
        CHECK.same("it has its best way", y.move(0), -1);
        // For 1 there are 5 and 2 free: it stays, too.
        best("the widest with its own", y, 1, 0);
    }

    /** Nobody else's: what another one has isn't counted back. */
    private static void notAnothers() {
        TunnelPlan x = standing("link 0 1 1 5;tunnel 0 1 3 3 3;tunnel 0 1 3 3 3;", 0);
        best("another one's", x, 1);
        CHECK.same("room beside it", x.room(1), 2);
        CHECK.same("room by itself", x.room(0), 5);
    }

    // ---- BEST WAY

    private static void theLeastMetric() {
        best("5 is less than 6, with more links, narrower, later", Tape.plan("nodes 4;link 0 3 6 9;link 0 1 2 1;link 1 2 2 1;link 2 3 1 1;tunnel 0 3 1 1 1;"), 0, 1, 2, 3);
        best("5 is more than 4", Tape.plan("nodes 4;link 0 3 4 1;link 0 1 2 9;link 1 2 2 9;link 2 3 1 9;tunnel 0 3 1 1 1;"), 0, 0);
        // Of those all of whose links it fits.
        best("the best one doesn't fit", Tape.plan("nodes 4;link 0 3 4 1;link 0 1 2 9;link 1 2 2 9;link 2 3 1 9;tunnel 0 3 2 1 1;"), 0, 1, 2, 3);
    }

    private static void theFewestLinks() {
        best("of like metrics one link, though narrower and later", Tape.plan("nodes 4;link 0 1 2 9;link 1 3 2 9;link 0 3 4 1;tunnel 0 3 1 1 1;"), 0, 2);
        best("of like metrics two, not three", Tape.plan("nodes 4;link 0 1 1 9;link 1 2 1 9;link 2 3 2 9;link 0 2 2 1;tunnel 0 3 1 1 1;"), 0, 3, 2);
    }

    private static void theMostOfTheLeastPool() {
        // 9 and 3 against 4 and 4: the least of each counts, not their sum, nor the first.
        best("the least pool of each", Tape.plan("nodes 4;link 0 1 1 9;link 1 3 1 3;link 0 2 1 4;link 2 3 1 4;tunnel 0 3 1 1 1;"), 0, 2, 3);
        best("of like ones the first", Tape.plan("nodes 4;link 0 1 1 9;link 1 3 1 4;link 0 2 1 4;link 2 3 1 9;tunnel 0 3 1 1 1;"), 0, 0, 1);
        // Pools at 7, though the tunnel could push out who holds 7.
        TunnelPlan x = standing("link 0 1 1 5;link 0 1 1 5;tunnel 0 1 1 7 7;tunnel 0 1 1 0 0;", 0);
        best("whoever holds at 7", x, 1, 1);
        // None left at 7 on the first: the pool is 0, on the other one 1.
        TunnelPlan y = standing("link 0 1 1 5;link 0 1 1 1;tunnel 0 1 5 7 7;tunnel 0 1 1 0 0;", 0);
        best("0 against 1", y, 1, 1);
        CHECK.same("nobody is pushed out", y.setUp(1), 0);
        // Both are full at 7: the first.
        TunnelPlan z = standing("link 0 1 1 5;link 0 1 1 5;tunnel 0 1 5 7 7;tunnel 0 1 5 7 7;tunnel 0 1 1 0 0;", 0, 1);
        best("0 against 0", z, 2, 0);
        CHECK.same("who was there is pushed out", z.setUp(2), 1);
    }

    /** The rules from each node to each other one: metric, links, pools, the first by links. */
    private static void fromEachToEach() {
        for (int from = 0; from < 8; from++) {
            for (int step = 1; step < 8; step++) {
                int to = (from + step) % 8;
                int a = (from + (step + 1) % 8 + (step == 7 ? 1 : 0)) % 8;
                int b = (a + 1) % 8;
                while (b == from || b == to || b == a) {
                    b = (b + 1) % 8;
                }
                String nodes = "nodes 8;";
                String byA = "link " + from + " " + a + " 3 9;link " + a + " " + to + " 2 4;";
                String byB = "link " + from + " " + b + " 3 5;link " + b + " " + to + " 2 5;";
                String tunnel = "tunnel " + from + " " + to + " 1 1 1;";
                String what = "from " + from + " to " + to;
                best("the widest " + what, Tape.plan(nodes + byA + byB + tunnel), 0, 2, 3);
                best("the widest first " + what, Tape.plan(nodes + byB + byA + tunnel), 0, 0, 1);
                best("like ones " + what, Tape.plan(nodes + byA + byA + tunnel), 0, 0, 1);
                best("the fewest links " + what, Tape.plan(nodes + byA + byB + "link " + from + " " + to + " 5 1;" + tunnel), 0, 4);
                best("the least metric " + what, Tape.plan(nodes + byA + byB + "link " + from + " " + to + " 6 99;" + tunnel), 0, 2, 3);
                // The widest of all goes by its second link, where the first ones are alike.
                best("at the second link " + what, Tape.plan(nodes + byA + "link " + a + " " + to + " 2 5;" + tunnel), 0, 0, 2);
            }
        }
    }

    private static void theFirstByLinks() {
        // 0 then 3, against 1 then 2: the first link decides.
        best("the first link", Tape.plan("nodes 4;link 0 1 1 9;link 0 2 1 9;link 2 3 1 9;link 1 3 1 9;tunnel 0 3 1 1 1;"), 0, 0, 3);
        // The way by links 2, 0 is behind the one by 1, 3, though it has the least link of all.
        best("one behind the other", Tape.plan("nodes 4;link 2 3 1 9;link 0 1 1 9;link 0 2 1 9;link 1 3 1 9;tunnel 0 3 1 1 1;"), 0, 1, 3);
        best("the second link", Tape.plan("nodes 3;link 0 1 1 9;link 1 2 1 9;link 1 2 1 9;tunnel 0 2 1 1 1;"), 0, 0, 1);
        best("side by side", Tape.plan("link 0 1 1 9;".repeat(16) + "tunnel 0 1 1 1 1;"), 0, 0);
    }

    private static void noBestWay() {
        for (String text : new String[] {"tunnel 0 1 1 1 1;", "link 1 0 1 9;tunnel 0 1 1 1 1;", "link 0 1 1 9 2;tunnel 0 1 1 1 1 2;",
            "link 0 1 1 9;tunnel 0 1 10 1 1;", "nodes 3;link 0 2 1 9;link 2 1 1 9;tunnel 0 1 1 1 1 0 1;"}) {
            TunnelPlan x = Tape.plan(text);
            best("none by " + text, x, 0);
            CHECK.same("best at the greatest int", x.best(0, Integer.MAX_VALUE), -1);
            CHECK.row("pushes by " + text, i -> x.pushes(0, i), -1, -1);
            CHECK.same("planned by " + text, x.planned(0, 0), -1);
            CHECK.same("room by " + text, x.room(0), text.contains(" 10 ") ? 9 : 0);
            CHECK.same("setUp by " + text, x.setUp(0), -1);
            CHECK.row("refused by " + text, i -> x.count(14 + i), 0, 1, 0);
        }
    }

    // ---- SET UP

    /** As much taken as CAPACITY pushes out nobody, one more does. */
    private static void moreTakenThanCapacity() {
        for (int asked = 1; asked <= 5; asked++) {
            TunnelPlan x = standing("link 0 1 1 5;tunnel 0 1 3 7 7;tunnel 0 1 " + asked + " 0 0;", 0);
            boolean more = asked > 2;
            CHECK.row("pushes by " + asked, i -> x.pushes(1, i), more ? 1 : 0, more ? 1 : 0);
            CHECK.same("pushed out by " + asked, x.setUp(1), more ? 1 : 0);
            CHECK.same("taken by " + asked, x.link(0, 6), more ? asked : 3 + asked);
        }
    }

    /** Only on its own way, and only who holds weaker than its SETUP. */
    private static void whoMayBePushedOut() {
        TunnelPlan x = standing("link 0 1 1 6;link 0 1 2 6;tunnel 0 1 2 4 3;tunnel 0 1 2 4 4;tunnel 0 1 2 5 5;tunnel 0 1 2 3 3;tunnel 0 1 5 3 3;tunnel 0 1 3 3 3;tunnel 0 1 4 3 3;", 0, 1, 2);
        CHECK.same("of holds 4 and 5 the weaker one is the least harm", x.pushes(3, 0), 4);
        CHECK.same("both for 3", x.pushes(5, 0), 6);
        CHECK.same("both for 4, all that hold weaker", x.pushes(6, 0), 6);
        x.resize(2, 1);
        CHECK.same("one of them is too small: the other one alone", x.pushes(5, 0), 2);
        CHECK.same("3 isn't pushed out, so there is no way on link 0 for 5", x.best(4, 0), 1);
    }

    private static void theLeastHarm() {
        // Harm 1, 2, 3 by holds 7, 6, 5, all as much: the weakest first, then by the sum.
        String three = "link 0 1 1 9;tunnel 0 1 3 7 5;tunnel 0 1 3 7 6;tunnel 0 1 3 7 7;";
        TunnelPlan x = standing(three + "tunnel 0 1 3 0 0;tunnel 0 1 6 0 0;tunnel 0 1 9 0 0;", 0, 1, 2);
        CHECK.same("harm 1", x.pushes(3, 0), 4);
        CHECK.same("harm 1 and 2", x.pushes(4, 0), 6);
        CHECK.same("all of them", x.pushes(5, 0), 7);
        // Harm 8 by hold 0 is never due, as nobody's SETUP is stronger; harm 7 by hold 1 is.
        TunnelPlan y = standing("link 0 1 1 9;tunnel 0 1 9 7 1;tunnel 0 1 9 0 0;tunnel 0 1 9 1 0;", 0);
        CHECK.row("harm 7", i -> y.pushes(i, 0), 0, 1, -1);
        // One of harm 3 against two of harm 1 and 1.
        TunnelPlan z = standing("link 0 1 1 4;tunnel 0 1 2 7 7;tunnel 0 1 2 7 5;tunnel 0 1 2 0 0;", 0, 1);
        CHECK.same("the least harm", z.pushes(2, 0), 1);
    }

    /** Not one whose HOLD is as strong as the SETUP, though its harm is less than that of all the others. */
    private static void neverOneThatHoldsAsStrong() {
        for (int strong = 0; strong <= 2; strong++) {
            // Harm 6 of tunnel 'strong' by hold 2 alone, or 5 and 5 by holds 3 of the two others.
            StringBuilder b = new StringBuilder("link 0 1 1 8;");
            for (int t = 0; t <= 2; t++) {
                b.append(t == strong ? "tunnel 0 1 4 3 2;" : "tunnel 0 1 2 3 3;");
            }
            TunnelPlan x = standing(b + "tunnel 0 1 4 2 2;tunnel 0 1 4 1 1;", 0, 1, 2);
            CHECK.same("by SETUP 2 both others", x.pushes(3, 0), 7 - (1 << strong));
            CHECK.same("by SETUP 1 it alone", x.pushes(4, 0), 1 << strong);
        }
    }

    private static void theFewest() {
        // Harm 1 and 1 (hold 7 each, 2 each) against harm 2 (hold 6, 4).
        TunnelPlan x = standing("link 0 1 1 8;tunnel 0 1 2 7 7;tunnel 0 1 2 7 7;tunnel 0 1 4 7 6;tunnel 0 1 4 0 0;", 0, 1, 2);
        CHECK.same("of like harm the fewest, with as much bandwidth", x.pushes(3, 0), 4);
        // Though its bandwidth is more: 5 against 2 and 2.
        TunnelPlan y = standing("link 0 1 1 9;tunnel 0 1 2 7 7;tunnel 0 1 2 7 7;tunnel 0 1 5 7 6;tunnel 0 1 4 0 0;", 0, 1, 2);
        CHECK.same("the fewest ahead of the bandwidth", y.pushes(3, 0), 4);
    }

    private static void theLeastBandwidth() {
        TunnelPlan x = standing("link 0 1 1 9;tunnel 0 1 4 7 7;tunnel 0 1 3 7 7;tunnel 0 1 2 7 7;tunnel 0 1 2 0 0;tunnel 0 1 3 0 0;tunnel 0 1 4 0 0;tunnel 0 1 5 0 0;", 0, 1, 2);
        CHECK.row("2, 3, 4 of them", i -> x.pushes(3 + i, 0), 4, 2, 1);
        CHECK.same("5 by 3 and 2", x.pushes(6, 0), 6);
    }

    private static void theLeastAsBits() {
        TunnelPlan x = standing("link 0 1 1 9;tunnel 0 1 3 7 7;tunnel 0 1 3 7 7;tunnel 0 1 3 7 7;tunnel 0 1 3 0 0;tunnel 0 1 6 0 0;", 0, 1, 2);
        CHECK.row("one, two of them", i -> x.pushes(3 + i, 0), 1, 3);
        TunnelPlan y = standing("nodes 3;link 0 1 1 4;link 1 2 1 4;tunnel 0 1 2 7 7;tunnel 1 2 2 7 7;tunnel 0 1 2 7 7;tunnel 1 2 2 7 7;tunnel 0 2 2 0 0;", 0, 1, 2, 3);
        CHECK.same("one of each link, the least as bits", y.pushes(4, 0), 3);
    }

    /** Of links of its way all must be relieved, and one on both relieves both. */
    private static void everyLinkOfItsWay() {
        TunnelPlan x = standing("nodes 3;link 0 1 1 4;link 1 2 1 4;tunnel 0 1 2 7 7;tunnel 1 2 2 7 7;tunnel 0 2 2 7 6;tunnel 0 2 2 0 0;tunnel 0 2 4 0 0;", 0, 1, 2);
        CHECK.same("harm 2 of one against 1 and 1 of two", x.pushes(3, 0), 4);
        CHECK.same("all of both", x.pushes(4, 0), 7);
        TunnelPlan y = standing("nodes 3;link 0 1 1 4;link 1 2 1 4;tunnel 0 1 2 7 7;tunnel 1 2 2 7 7;tunnel 0 2 2 7 5;tunnel 0 2 2 0 0;", 0, 1, 2);
        CHECK.same("harm 1 and 1 of two against 3 of one", y.pushes(3, 0), 3);
        TunnelPlan z = standing("nodes 3;link 0 1 1 4;link 1 2 1 9;tunnel 0 1 2 7 7;tunnel 1 2 2 7 7;tunnel 0 2 2 7 5;tunnel 0 2 2 0 0;", 0, 1, 2);
        CHECK.same("one link is overbooked", z.pushes(3, 0), 1);
    }

    /** What it had is freed, when it takes another way. */
    private static void whatItHadIsFreed() {
        TunnelPlan x = Tape.plan("link 0 1 1 5;link 0 1 2 5;tunnel 0 1 5 3 3;");
        x.fail(0);
        x.setUp(0);
        x.mend(0);
        CHECK.row("taken", i -> x.link(i, 6), 0, 5);
        CHECK.same("moved", x.move(0), 0);
        CHECK.row("taken then", i -> x.link(i, 6), 5, 0);
        // On both links of a way that it keeps in part it takes its bandwidth once.
        TunnelPlan y = Tape.plan("nodes 3;link 0 1 1 5;link 1 2 2 5;link 1 2 1 5;tunnel 0 2 5 3 3;");
        y.fail(2);
        y.setUp(0);
        y.mend(2);
        CHECK.same("moved", y.move(0), 0);
        CHECK.row("taken then", i -> y.link(i, 6), 5, 0, 5);
    }

    // ---- who waits

    /** The strongest SETUP of all that wait is first, then the least number. */
    private static void whoIsFirst() {
        // Both are pushed off link 0, and link 1 holds one of them.
        TunnelPlan x = standing("link 0 1 1 6;link 0 1 2 3;tunnel 0 1 3 6 5;tunnel 0 1 3 5 5;tunnel 0 1 6 2 2;", 0, 1);
        CHECK.same("both are pushed out", x.setUp(2), 2);
        CHECK.same("SETUP 5 ahead of 6", x.count(3), 6);
        TunnelPlan y = standing("link 0 1 1 6;link 0 1 2 3;tunnel 0 1 3 5 5;tunnel 0 1 3 5 4;tunnel 0 1 6 2 2;", 0, 1);
        CHECK.same("both are pushed out", y.setUp(2), 2);
        CHECK.same("0 ahead of 1, though its HOLD is weaker", y.count(3), 5);
    }

    /** Those pushed out by these wait beside those that wait already, and the strongest of all is next. */
    private static void thoseByTheseToo() {
        // 3 pushes out 0 (SETUP 3) and 1 (SETUP 7). 0 goes to link 1 and pushes out 2 (SETUP 6), which
        // is ahead of 1 and takes link 2; nothing is left for 1.
        String text = "link 0 1 1 6;link 0 1 2 3;link 0 1 3 3;tunnel 0 1 3 3 3;tunnel 0 1 3 7 6;tunnel 0 1 3 6 6;tunnel 0 1 6 1 1;";
        TunnelPlan x = standing(text, 0, 1, 2);
        CHECK.row("where they are", t -> x.way(t, 0), 0, 0, 1);
        CHECK.row("pushes", i -> x.pushes(3, i), 3, 1);
        CHECK.same("three are pushed out by all", x.setUp(3), 3);
        CHECK.same("who stands", x.count(3), 13);
        CHECK.row("where they are then", t -> t == 1 ? -1 : x.way(t, 0), 1, -1, 2, 0);
    }

    /** All that wait have their turn: whoever finds a way stands, whether the one ahead found one or not. */
    private static void allHaveTheirTurn() {
        TunnelPlan x = standing("link 0 1 1 6;link 0 1 2 6;tunnel 0 1 2 5 5;tunnel 0 1 2 5 5;tunnel 0 1 2 5 5;tunnel 0 1 6 2 2;", 0, 1, 2);
        CHECK.row("pushes", i -> x.pushes(3, i), 7, 0);
        CHECK.same("three are pushed out", x.setUp(3), 3);
        CHECK.row("all three find a way", t -> x.way(t, 0), 1, 1, 1, 0);
        TunnelPlan y = standing("link 0 1 1 6;link 0 1 2 3;tunnel 0 1 4 5 5;tunnel 0 1 2 6 6;tunnel 0 1 6 2 2;", 0, 1);
        CHECK.same("two are pushed out", y.setUp(2), 2);
        CHECK.same("the first of them finds none, the second one does", y.count(3), 6);
        // The first of them pushes out another one, and the second one has its turn still.
        TunnelPlan z = standing("link 0 1 1 6;link 0 1 2 6;link 0 1 3 6;tunnel 0 1 6 5 5;tunnel 0 1 3 3 3;tunnel 0 1 3 4 4;tunnel 0 1 6 2 2;", 1, 2, 0);
        CHECK.row("where they are", t -> z.way(t, 0), 1, 0, 0);
        CHECK.same("three are pushed out by all", z.setUp(3), 3);
        CHECK.row("where they are then", t -> z.way(t, 0), 2, 1, 1, 0);
        TunnelPlan w = standing("link 0 1 1 6;link 0 1 2 6;tunnel 0 1 3 5 5;tunnel 0 1 3 4 4;", 0, 1);
        CHECK.same("none is lost by a link's failing", w.fail(0), 0);
        CHECK.row("both go to the other one", t -> w.way(t, 0), 1, 1);
    }

    /** One that has no best way waits no more: it doesn't stand, and comes back by an act alone. */
    private static void whoFindsNone() {
        TunnelPlan x = standing("link 0 1 1 5;tunnel 0 1 5 7 7;tunnel 0 1 5 0 0;", 0);
        CHECK.same("pushed out", x.setUp(1), 1);
        CHECK.row("it doesn't stand", i -> x.tunnel(0, 7 + i), 0, -1, -1, -1);
        x.tearDown(1);
        CHECK.same("nor now", x.count(3), 0);
        CHECK.same("by an act", x.setUp(0), 0);
    }

    /** The longest chain: seven, each pushed out by the one ahead, the last one without a way. */
    private static void theLongestChain() {
        StringBuilder b = new StringBuilder();
        for (int i = 1; i <= 7; i++) {
            b.append("link 0 1 ").append(i).append(" 5;");
        }
        for (int i = 0; i <= 7; i++) {
            b.append("tunnel 0 1 5 ").append(i).append(' ').append(i).append(';');
        }
        TunnelPlan x = standing(b.toString(), 1, 2, 3, 4, 5, 6, 7);
        CHECK.row("where they are", t -> x.way(t + 1, 0), 0, 1, 2, 3, 4, 5, 6);
        CHECK.row("pushes", i -> x.pushes(0, i), 2, 1);
        CHECK.same("seven are pushed out", x.setUp(0), 7);
        CHECK.row("each is one further on", t -> x.way(t, 0), 0, 1, 2, 3, 4, 5, 6);
        CHECK.same("but for the last one", x.count(3), 127);
        CHECK.same("one act", x.undo(), 7);
        CHECK.row("as they were", t -> x.way(t + 1, 0), 0, 1, 2, 3, 4, 5, 6);
    }

    public static void main(String[] args) {
        atFirst();
        onlyByLinksThatAreUp();
        oneWay();
        colours();
        hops();
        takesItsBandwidth();
        poolsByHold();
        fitsByBandwidth();
        setupAgainstHold();
        itsOwnCountedBack();
        notAnothers();
        theLeastMetric();
        theFewestLinks();
        theMostOfTheLeastPool();
        fromEachToEach();
        theFirstByLinks();
        noBestWay();
        moreTakenThanCapacity();
        whoMayBePushedOut();
        theLeastHarm();
        neverOneThatHoldsAsStrong();
        theFewest();
        theLeastBandwidth();
        theLeastAsBits();
        everyLinkOfItsWay();
        whatItHadIsFreed();
        whoIsFirst();
        thoseByTheseToo();
        allHaveTheirTurn();
        whoFindsNone();
        theLongestChain();
        CHECK.end();
    }
}
