/** The edges of SEEN, OTHER, LUCK and YEARS (promises 29 to 33). */
public final class EdgeChanceTest {
    private static final Check CHECK = new Check();

    private EdgeChanceTest() {
    }

    // ---- SEEN

    /** How much is seen: 8 at most; refused calls change nothing but STATUS 2. */
    private static void eightAreSeen() {
        TunnelPlan x = Tape.plan("link 0 1 1 9;");
        for (int i = 1; i <= 8; i++) {
            CHECK.same("see", x.see(0, 1, i, 0, true), i);
            CHECK.row("seen, refused", k -> x.count(k == 0 ? 12 : 16), i, 0);
        }
        for (int i = 1; i <= 3; i++) {
            CHECK.same("one more", x.see(0, 1, 1, 0, true), -1);
            CHECK.row("seen, refused", k -> x.count(k == 0 ? 12 : 16), 8, i);
        }
        CHECK.noSuch("no such node ahead of that", () -> x.see(0, 2, 1, 0, true));
        CHECK.same("that isn't counted", x.count(16), 3);
        x.forget();
        CHECK.row("forgotten", k -> x.count(k == 0 ? 12 : 16), 0, 3);
        CHECK.same("the first again", x.see(0, 1, 1, 0, true), 1);
        x.forget();
        x.forget();
        CHECK.row("nothing to forget", k -> x.count(k == 0 ? 12 : 16), 0, 3);
    }

    private static void whatMayBeSeen() {
        TunnelPlan x = Tape.plan("nodes 3;link 0 1 1 9;");
        int refused = 0;
        for (int bandwidth : new int[] {Integer.MIN_VALUE, -1, 0, 1, 2, 98, 99, 100, Integer.MAX_VALUE}) {
            boolean may = bandwidth >= 1 && bandwidth <= 99;
            refused += may ? 0 : 1;
            CHECK.same("bandwidth " + bandwidth, x.see(0, 1, bandwidth, 3, true), may ? 1 : -1);
            x.forget();
            CHECK.same("refused", x.count(16), refused);
        }
        for (int setup : new int[] {Integer.MIN_VALUE, -1, 0, 1, 6, 7, 8, Integer.MAX_VALUE}) {
            boolean may = setup >= 0 && setup <= 7;
            refused += may ? 0 : 1;
            CHECK.same("setup " + setup, x.see(0, 1, 1, setup, false), may ? 1 : -1);
            x.forget();
            CHECK.same("refused", x.count(16), refused);
        }
        for (int node = -1; node <= 3; node++) {
            for (int other = -1; other <= 3; other++) {
                int from = node;
                int to = other;
                String what = "from " + node + " to " + other;
                if (node < 0 || node > 2 || other < 0 || other > 2) {
                    CHECK.noSuch(what, () -> x.see(from, to, 0, 8, true));
                } else {
                    refused += node == other ? 1 : 0;
                    CHECK.same(what, x.see(node, other, 1, 1, true), node == other ? -1 : 1);
                }
                x.forget();
                CHECK.same("refused", x.count(16), refused);
            }
        }
    }

    /** By the POOL at its SETUP: so much has a way, one more has none; it SHUNS nothing and has 7 hops. */
    private static void whetherItIsSo() {
        String text = "nodes 8;link 0 1 1 9 15;link 1 2 1 8;link 2 3 1 9;link 3 4 1 9;link 4 5 1 9;link 5 6 1 9;link 6 7 1 9;tunnel 1 2 3 7 4;";
        for (int setup = 0; setup <= 7; setup++) {
            for (int bandwidth = 4; bandwidth <= 9; bandwidth++) {
                TunnelPlan x = Tape.plan(text);
                x.setUp(0);
                boolean is = bandwidth <= (setup >= 4 ? 5 : 8);
                x.see(0, 7, bandwidth, setup, true);
                CHECK.same("seen that " + bandwidth + " at " + setup + " has", x.other(2), is ? 1 : 0);
                x.forget();
                x.see(0, 7, bandwidth, setup, false);
                CHECK.same("seen that " + bandwidth + " at " + setup + " hasn't", x.other(2), is ? 0 : 1);
            }
        }
    }

    /** Now, not when it was seen. */
    private static void now() {
        TunnelPlan x = Tape.plan("link 0 1 1 9;tunnel 0 1 1 1 1;");
        x.see(0, 1, 9, 1, true);
        CHECK.same("so it is", x.other(2), 1);
        x.setUp(0);
        CHECK.same("not with one that stands", x.other(2), 0);
        x.fail(0);
        CHECK.same("nor without the link", x.other(2), 0);
        x.undo();
        x.undo();
        CHECK.same("so it is again", x.other(2), 1);
    }

    /** All of them: each of the eight may be the one that isn't so. */
    private static void eachOfEight() {
        for (int odd = 0; odd < 8; odd++) {
            TunnelPlan x = Tape.plan("link 0 1 1 9;");
            for (int i = 0; i < 8; i++) {
                x.see(0, 1, 9, i, i != odd);
            }
            CHECK.same("without what is " + odd, x.other(2), 0);
            CHECK.same("no capacity", x.other(0), 0);
        }
    }

    // ---- OTHER

    /** CAPACITIES 1 to 20, another one than it has. */
    private static void capacities() {
        for (int capacity = 1; capacity <= 99; capacity++) {
            TunnelPlan x = Tape.plan("link 0 1 1 " + capacity + ";");
            CHECK.row("nothing seen by " + capacity, x::other, capacity <= 20 ? 19 : 20, capacity == 1 ? 2 : 1, 1);
        }
        CHECK.row("no links", new TunnelPlan()::other, 0, -1, 1);
        CHECK.row("sixteen", Tape.plan("link 0 1 1 99;".repeat(16))::other, 320, 1, 1);
        for (int what : new int[] {-1, 3, Integer.MIN_VALUE, Integer.MAX_VALUE}) {
            CHECK.noSuch("other(" + what + ")", () -> new TunnelPlan().other(what));
        }
    }

    /** No less than is taken. */
    private static void noLessThanIsTaken() {
        for (int taken = 1; taken <= 22; taken++) {
            TunnelPlan x = Tape.plan("link 0 1 1 99;tunnel 0 1 " + taken + " 1 1;");
            x.setUp(0);
            int many = Math.max(0, 21 - taken);
            CHECK.row(taken + " are taken", x::other, many, many > 0 ? taken : -1, 1);
        }
        TunnelPlan x = Tape.plan("link 0 1 1 20;tunnel 0 1 20 1 1;");
        x.setUp(0);
        CHECK.row("all that it has", x::other, 0, -1, 1);
    }

    /** By so much as is seen: 20 can be, 21 can't; and what isn't must be above. */
    private static void bySoMuch() {
        for (int seen = 1; seen <= 22; seen++) {
            TunnelPlan x = Tape.plan("link 0 1 1 30;");
            x.see(0, 1, seen, 0, true);
            int many = Math.max(0, 21 - seen);
            CHECK.row(seen + " is", x::other, many, many > 0 ? seen : -1, 1);
            x.forget();
            x.see(0, 1, seen, 0, false);
            int below = Math.min(20, seen - 1);
            CHECK.row(seen + " isn't", x::other, below, below > 0 ? 1 : -1, 0);
            x.see(0, 1, Math.max(1, seen - 3), 0, true);
            int from = Math.max(1, seen - 3);
            int some = Math.max(0, below - from + 1);
            CHECK.row("between " + from + " and " + seen, x::other, some, some > 0 ? from : -1, 0);
        }
    }

    /** By the POOL at the SETUP that is seen: what holds weaker isn't counted, but is taken all the same. */
    private static void byHowItIsSeen() {
        for (int setup = 0; setup <= 7; setup++) {
            TunnelPlan x = Tape.plan("link 0 1 1 30;tunnel 0 1 6 7 4;");
            x.setUp(0);
            x.see(0, 1, 3, setup, true);
            int least = setup >= 4 ? 9 : 6;
            CHECK.row("3 by " + setup, x::other, 21 - least, least, 1);
            x.see(0, 1, 5, setup, false);
            int most = setup >= 4 ? 10 : 4;
            CHECK.row("3 and not 5 by " + setup, x::other, Math.max(0, most - least + 1), most >= least ? least : -1, 0);
        }
    }

    /** By one of them alone; the first by LINK, then by CAPACITY. */
    private static void byOneLinkAlone() {
        String row = "nodes 3;link 0 1 1 5;link 1 2 1 5;";
        TunnelPlan x = Tape.plan(row);
        x.see(0, 2, 6, 0, true);
        CHECK.row("both would have to be wider", x::other, 0, -1, 0);
        TunnelPlan y = Tape.plan("nodes 3;link 0 1 1 9;link 1 2 1 5;");
        y.see(0, 2, 6, 0, true);
        CHECK.row("the second link alone", y::other, 15, 106, 0);
        TunnelPlan z = Tape.plan("link 0 1 1 5;link 0 1 1 5;");
        z.see(0, 1, 20, 0, true);
        CHECK.row("either", z::other, 2, 20, 0);
        z.see(0, 1, 4, 0, true);
        CHECK.row("either still", z::other, 2, 20, 0);
        z.see(0, 1, 4, 7, false);
        CHECK.row("neither", z::other, 0, -1, 0);
    }

    /** A way of seven links: each of them may be the one that is too narrow. */
    private static void sevenHops() {
        for (int narrow = 0; narrow < 7; narrow++) {
            StringBuilder b = new StringBuilder("nodes 8;");
            for (int i = 0; i < 7; i++) {
                b.append("link ").append(i).append(' ').append(i + 1).append(i == narrow ? " 1 4;" : " 1 9;");
            }
            TunnelPlan x = Tape.plan(b.toString());
            x.see(0, 7, 5, 0, true);
            CHECK.row("link " + narrow, x::other, 16, 100 * narrow + 5, 0);
            x.forget();
            x.see(0, 7, 5, 0, false);
            // It may be 1 to 3, each of the others 1 to 20, but for what it has.
            CHECK.row("not link " + narrow, x::other, 3 + 6 * 19, 1, 1);
        }
    }

    /** A link that is on no way may have any capacity, be the way of seven links. */
    private static void offAWayOfSeven() {
        StringBuilder b = new StringBuilder("nodes 8;");
        for (int i = 0; i < 7; i++) {
            b.append("link ").append(i).append(' ').append(i + 1).append(" 1 9;");
        }
        TunnelPlan x = Tape.plan(b + "link 7 0 1 1;");
        x.see(0, 7, 5, 0, true);
        CHECK.row("5 to 20 of seven, but for 9, 2 to 20 of the eighth", x::other, 7 * 15 + 19, 5, 1);
    }

    /** A link that isn't UP helps none, and harms none. */
    private static void ofLinksThatArentUp() {
        TunnelPlan x = Tape.plan("link 0 1 1 5;link 1 0 1 5;");
        x.fail(0);
        CHECK.row("nothing seen", x::other, 38, 1, 1);
        x.see(0, 1, 1, 0, true);
        CHECK.row("none has a way", x::other, 0, -1, 0);
        x.forget();
        x.see(0, 1, 1, 0, false);
        CHECK.row("so it is", x::other, 38, 1, 1);
    }

    // ---- LUCK

    private static int power(int base, int exponent) {
        return exponent == 0 ? 1 : base * power(base, exponent - 1);
    }

    /** Links side by side, and in a row: each with so many tenths. */
    private static void byTenths() {
        for (int links = 1; links <= 7; links++) {
            StringBuilder row = new StringBuilder("nodes 8;");
            for (int i = 0; i < links; i++) {
                row.append("link ").append(i).append(' ').append(i + 1).append(" 1 1;");
            }
            TunnelPlan inRow = Tape.plan(row + "tunnel 0 " + links + " 99 1 1;");
            TunnelPlan aside = Tape.plan("link 0 1 1 1;".repeat(links) + "tunnel 0 1 99 1 1;");
            for (int tenths = 0; tenths <= 10; tenths++) {
                CHECK.same(links + " in a row by " + tenths, inRow.luck(0, tenths), power(10 - tenths, links));
                CHECK.same(links + " side by side by " + tenths, aside.luck(0, tenths), power(10, links) - power(tenths, links));
            }
        }
        TunnelPlan x = Tape.plan("link 0 1 1 1;tunnel 0 1 99 1 1;");
        for (int wrong : new int[] {-1, 11, Integer.MIN_VALUE, Integer.MAX_VALUE}) {
            CHECK.illegal("luck by " + wrong, () -> x.luck(0, wrong));
            CHECK.noSuch("luck of none by " + wrong, () -> x.luck(1, wrong));
        }
    }

    /** Links 0 to 7 may fail, link 8 doesn't, up or not up as the first ones may be. */
    private static void theFirstEight() {
        // Link 7 alone goes to node 2, link 8 alone to node 3.
        TunnelPlan x = Tape.plan("nodes 4;" + "link 0 1 1 1;".repeat(7) + "link 0 2 1 1;link 0 3 1 1;link 0 1 1 1;"
                + "tunnel 0 2 1 1 1;tunnel 0 3 1 1 1;tunnel 0 1 1 1 1;");
        CHECK.row("3 tenths", t -> x.luck(t, 3), 7 * power(10, 7), power(10, 8), power(10, 8));
        CHECK.row("10 tenths", t -> x.luck(t, 10), 0, power(10, 8), power(10, 8));
        CHECK.row("0 tenths", t -> x.luck(t, 0), power(10, 8), power(10, 8), power(10, 8));
        x.fail(9);
        CHECK.row("link 9 isn't one of them", t -> x.luck(t, 10), 0, power(10, 8), 0);
        x.fail(0);
        CHECK.row("seven of the first eight are up", t -> x.luck(t, 3), 7 * power(10, 6), power(10, 7), power(10, 7) - 10 * power(3, 6));
        for (int link = 1; link <= 6; link++) {
            x.fail(link);
        }
        CHECK.row("one is", t -> x.luck(t, 3), 7, 10, 0);
        x.fail(7);
        CHECK.row("none is", t -> x.luck(t, 3), 0, 1, 0);
        x.fail(8);
        CHECK.row("nor link 8", t -> x.luck(t, 3), 0, 0, 0);
    }

    /** Any way, whether it fits or not, by its colours and hops. */
    private static void anyWay() {
        TunnelPlan x = Tape.plan("nodes 3;link 0 1 1 1;link 1 2 1 1;link 0 2 9 1 4;tunnel 0 2 99 1 1;tunnel 0 2 99 1 1 4;tunnel 0 2 99 1 1 0 1;tunnel 0 2 99 1 1 4 1;");
        CHECK.row("1 tenth", t -> x.luck(t, 1), 900 + 81, 810, 900, 0);
        CHECK.row("0 tenths", t -> x.luck(t, 0), 1000, 1000, 1000, 0);
    }

    // ---- YEARS

    private static int next(int seed) {
        return (int) (seed * 1103515245L + 12345L);
    }

    /** Bits 16 to 30, by dividing. */
    private static int drawn(int seed, int n) {
        return (int) (Math.floorMod((long) seed, 1L << 31) / 65536 % n);
    }

    private static int[] seeds() {
        int[] seeds = new int[200];
        for (int i = 0; i < 190; i++) {
            seeds[i] = i - 50;
        }
        int[] edges = {Integer.MIN_VALUE, Integer.MIN_VALUE + 1, Integer.MAX_VALUE, Integer.MAX_VALUE - 1, 1 << 30, -(1 << 30), 65535, 65536, -65536, 1 << 16 << 14};
        System.arraycopy(edges, 0, seeds, 190, 10);
        return seeds;
    }

    private static TunnelPlan inAChain(int state) {
        TunnelPlan x = Tape.plan("link 0 1 1 5;link 0 1 2 5;link 0 1 3 5;tunnel 0 1 5 3 3;tunnel 0 1 5 6 6;tunnel 0 1 5 1 1;");
        x.setUp(0);
        x.setUp(1);
        if (state > 0) {
            x.setUp(2);
        }
        if (state > 1) {
            x.fail(2);
        }
        return x;
    }

    /** One year from a state in which each draw's outcome is known: by[draw of 4][draw of three], how many stand and are pushed out. */
    private static void oneYear(int state, int[][] stand, int[][] pushed) {
        int[] seen = new int[12];
        for (int seed : seeds()) {
            int first = next(seed);
            int second = next(first);
            int kind = drawn(first, 4);
            int which = drawn(second, 3);
            seen[kind * 3 + which]++;
            TunnelPlan x = inAChain(state);
            CHECK.row("year 1 of " + seed + " from " + state, k -> x.years(seed, 1, k), stand[kind][which], pushed[kind][which], 5 * stand[kind][which]);
        }
        for (int many : seen) {
            CHECK.yes("each outcome was drawn", many > 0);
        }
    }

    private static void eachOutcome() {
        // 0 on link 0, 1 on link 1, link 2 free: 2 pushes out 0, who pushes out 1.
        oneYear(0, new int[][] {{2, 2, 3}, {2, 2, 3}, {1, 1, 2}, {2, 2, 2}}, new int[][] {{0, 0, 2}, {0, 0, 2}, {0, 0, 0}, {1, 0, 0}});
        // 2 on link 0, 0 on link 1, 1 on link 2: by link 0 both others are pushed out, by link 1 the last one.
        oneYear(1, new int[][] {{3, 3, 3}, {3, 3, 3}, {2, 2, 2}, {2, 2, 2}}, new int[][] {{0, 0, 0}, {0, 0, 0}, {0, 0, 0}, {2, 1, 0}});
        // 1 stands no more, and has no best way; link 2 is mended, and nobody comes back by that.
        oneYear(2, new int[][] {{2, 2, 2}, {2, 2, 2}, {1, 2, 1}, {1, 1, 2}}, new int[][] {{0, 0, 0}, {0, 0, 0}, {0, 0, 0}, {1, 0, 0}});
    }

    private static void allAsEverBehindIt() {
        TunnelPlan x = inAChain(2);
        x.see(0, 1, 1, 1, true);
        for (int seed = 0; seed < 40; seed++) {
            x.years(seed, 60, 0);
            CHECK.row("behind the years of " + seed, i -> x.count(3 + i), 5, 3, 10, 3);
        }
        CHECK.row("acts, seen", i -> x.count(11 + i), 4, 1);
        CHECK.row("nothing refused", i -> x.count(14 + i), 0, 0, 0);
    }

    /** Years by calls, with one link and two tunnels of which one may push out the other one: 0 to 60 of them. */
    private static void yearByYear() {
        for (int seed : seeds()) {
            TunnelPlan x = Tape.plan("link 0 1 1 9;tunnel 0 1 4 7 7;tunnel 0 1 7 1 1;");
            TunnelPlan y = Tape.plan("link 0 1 1 9;tunnel 0 1 4 7 7;tunnel 0 1 7 1 1;");
            int s = seed;
            int pushed = 0;
            for (int n = 0; n <= 60; n++) {
                if (n % 10 == 0 || n == 59) {
                    int years = n;
                    CHECK.row(n + " years of " + seed, k -> x.years(seed, years, k), Integer.bitCount(y.count(3)), pushed, y.count(5));
                }
                s = next(s);
                int kind = drawn(s, 4);
                s = next(s);
                if (kind < 2) {
                    pushed += Math.max(0, y.setUp(drawn(s, 2)));
                } else if (kind == 2) {
                    y.tearDown(drawn(s, 2));
                } else if (y.count(4) == 1) {
                    y.fail(0);
                } else {
                    y.mend(0);
                }
            }
            CHECK.same("none stands still", x.count(3), 0);
        }
    }

    private static void howManyYears() {
        TunnelPlan x = Tape.plan("link 0 1 1 9;tunnel 0 1 4 7 7;");
        x.setUp(0);
        CHECK.row("no years", k -> x.years(5, 0, k), 1, 0, 4);
        for (int n : new int[] {0, 1, 59, 60}) {
            CHECK.yes(n + " years", x.years(5, n, 0) >= 0);
        }
        for (int n : new int[] {-1, 61, Integer.MIN_VALUE, Integer.MAX_VALUE}) {
            CHECK.illegal(n + " years", () -> x.years(5, n, 0));
            CHECK.noSuch(n + " years, what 3", () -> x.years(5, n, 3));
            CHECK.noSuch(n + " years, what -1", () -> x.years(5, n, -1));
        }
        CHECK.noSuch("what 3", () -> x.years(5, 60, 3));
        CHECK.noSuch("what -1", () -> x.years(5, 60, -1));
    }

    /** Without tunnels, without links, without either nobody ever stands. */
    private static void withoutAny() {
        for (int seed : seeds()) {
            CHECK.row("neither", k -> new TunnelPlan().years(seed, 60, k), 0, 0, 0);
            CHECK.row("no tunnels", k -> Tape.plan("link 0 1 1 1;link 1 0 1 1;").years(seed, 60, k), 0, 0, 0);
            CHECK.row("no links", k -> Tape.plan("tunnel 0 1 1 1 1;tunnel 0 1 1 1 1;").years(seed, 60, k), 0, 0, 0);
        }
    }

    public static void main(String[] args) {
        eightAreSeen();
        whatMayBeSeen();
        whetherItIsSo();
        now();
        eachOfEight();
        capacities();
        noLessThanIsTaken();
        bySoMuch();
        byHowItIsSeen();
        byOneLinkAlone();
        sevenHops();
        offAWayOfSeven();
        ofLinksThatArentUp();
        byTenths();
        theFirstEight();
        anyWay();
        eachOutcome();
        allAsEverBehindIt();
        yearByYear();
        howManyYears();
        withoutAny();
        CHECK.end();
    }
}
