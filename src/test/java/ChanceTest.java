/** Promises 32 and 33: luck, years. */
public final class ChanceTest {
    private static final Check CHECK = new Check();

    private ChanceTest() {
    }

    private static void luck() {
        TunnelPlan x = Tape.plan("nodes 3;link 0 1 1 1;link 1 2 1 1;link 0 2 1 1 1;tunnel 0 2 9 5 5;tunnel 0 2 9 5 5 1;tunnel 0 2 9 5 5 0 1;tunnel 2 0 9 5 5;");
        CHECK.noSuch("luck(4, 11), no such tunnel first", () -> x.luck(4, 11));
        CHECK.noSuch("luck(-1, 0)", () -> x.luck(-1, 0));
        CHECK.illegal("luck(0, 11)", () -> x.luck(0, 11));
        CHECK.illegal("luck(0, -1)", () -> x.luck(0, -1));
        // Both links of the long way stand with 49 of 100, the short one with 7 of 10.
        CHECK.row("3 tenths", t -> x.luck(t, 3), 1000 - 51 * 3, 490, 700, 0);
        CHECK.row("0 tenths", t -> x.luck(t, 0), 1000, 1000, 1000, 0);
        CHECK.row("10 tenths", t -> x.luck(t, 10), 0, 0, 0, 0);
        x.fail(2);
        CHECK.row("two links are up", t -> x.luck(t, 3), 49, 49, 0, 0);
        x.fail(0);
        x.fail(1);
        CHECK.row("none is", t -> x.luck(t, 0), 0, 0, 0, 0);
    }

    private static void onlyTheFirstEight() {
        TunnelPlan x = Tape.plan("nodes 3;" + "link 0 1 1 1;".repeat(8) + "link 1 2 1 1;link 2 1 1 1;tunnel 0 1 1 1 1;tunnel 1 2 1 1 1;tunnel 0 2 1 1 1;");
        CHECK.row("one of eight", t -> x.luck(t, 9), 100000000 - 43046721, 100000000, 100000000 - 43046721);
        CHECK.row("ten tenths of eight", t -> x.luck(t, 10), 0, 100000000, 0);
        for (int link = 0; link < 8; link++) {
            x.fail(link);
        }
        CHECK.row("one of one", t -> x.luck(t, 5), 0, 1, 0);
    }

    private static void years() {
        TunnelPlan x = Tape.plan("link 0 1 1 5;link 0 1 2 5;tunnel 0 1 5 3 3;tunnel 0 1 5 6 6;tunnel 0 1 5 1 1;");
        CHECK.noSuch("years(1, -1, 3), another what first", () -> x.years(1, -1, 3));
        CHECK.noSuch("years(1, 1, -1)", () -> x.years(1, 1, -1));
        CHECK.illegal("years(1, -1, 0)", () -> x.years(1, -1, 0));
        CHECK.illegal("years(1, 61, 0)", () -> x.years(1, 61, 0));
        CHECK.row("no years", what -> x.years(1, 0, what), 0, 0, 0);
        x.setUp(1);
        CHECK.row("no years with one", what -> x.years(1, 0, what), 1, 0, 5);
        for (int seed = -3; seed < 40; seed++) {
            lived(x, seed);
        }
        CHECK.row("all as ever behind it", i -> x.count(i + 3), 2, 3, 5, 1);
        CHECK.same("no acts", x.count(11), 1);
        CHECK.same("nothing refused", x.count(15), 0);
    }

    /** The same years by calls. */
    private static void lived(TunnelPlan x, int seed) {
        TunnelPlan y = Tape.plan("link 0 1 1 5;link 0 1 2 5;tunnel 0 1 5 3 3;tunnel 0 1 5 6 6;tunnel 0 1 5 1 1;");
        y.setUp(1);
        int s = seed;
        int pushed = 0;
        for (int year = 0; year < 20; year++) {
            s = s * 1103515245 + 12345;
            int kind = (s >>> 16) % 32768 % 4;
            s = s * 1103515245 + 12345;
            int drawn = (s >>> 16) % 32768;
            if (kind < 2) {
                pushed += Math.max(0, y.setUp(drawn % 3));
            } else if (kind == 2) {
                y.tearDown(drawn % 3);
            } else if (y.link(drawn % 2, 5) == 0) {
                y.mend(drawn % 2);
            } else {
                // Who is pushed out by those that look for another way: here 0 or 2 by the link's failing.
                int stood = y.count(3);
                int on = y.link(drawn % 2, 7);
                y.fail(drawn % 2);
                pushed += pushedByFailing(y, stood, on);
            }
        }
        int all = pushed;
        CHECK.row("years of " + seed, what -> x.years(seed, 20, what), Integer.bitCount(y.count(3)), all, y.count(5));
    }

    /** With two links that hold one tunnel each: whoever was on the other link and isn't now was pushed out. */
    private static int pushedByFailing(TunnelPlan y, int stood, int on) {
        return Integer.bitCount(stood & ~on & ~y.count(3));
    }

    /** With one link and one tunnel a draw of 3 fails or mends the link. */
    private static void yearsOfOne() {
        TunnelPlan x = Tape.plan("link 0 1 1 9;tunnel 0 1 4 1 1;");
        for (int seed = 0; seed < 60; seed++) {
            int s = seed;
            boolean up = true;
            boolean stands = false;
            for (int year = 0; year < 7; year++) {
                s = s * 1103515245 + 12345;
                int kind = s >>> 16 & 3;
                s = s * 1103515245 + 12345;
                up = kind == 3 ? !up : up;
                stands = kind < 2 ? up : kind == 2 ? false : stands && up;
            }
            int given = seed;
            CHECK.row("years of " + seed, what -> x.years(given, 7, what), stands ? 1 : 0, 0, stands ? 4 : 0);
        }
    }

    private static void yearsOfNothing() {
        TunnelPlan x = new TunnelPlan();
        CHECK.row("no links, no tunnels", what -> x.years(7, 60, what), 0, 0, 0);
        // Without links nothing is drawn behind a 3, so the draws shift; still nobody stands.
        TunnelPlan y = Tape.plan("tunnel 0 1 1 1 1;");
        CHECK.row("no links", what -> y.years(7, 60, what), 0, 0, 0);
        CHECK.same("no tunnels", oneLink(), 0);
        without();
    }

    private static int oneLink() {
        return Tape.plan("link 0 1 1 1;").years(7, 60, 0);
    }

    /** 1 is drawn first with seed 1 (its bits are 16838, that is 2 MOD 4): it is torn down, if it is drawn. */
    private static void without() {
        TunnelPlan x = Tape.plan("link 0 1 1 9;tunnel 0 1 4 1 1;");
        x.setUp(0);
        CHECK.same("1103527590 has 16838 there", (1103527590 >>> 16) % 4, 2);
        CHECK.row("torn down in the first year", what -> x.years(1, 1, what), 0, 0, 0);
        CHECK.row("it stands still", i -> x.count(i + 3), 1, 1, 4);
    }

    public static void main(String[] args) {
        luck();
        onlyTheFirstEight();
        years();
        yearsOfOne();
        yearsOfNothing();
        CHECK.end();
    }
}
