import java.util.function.IntSupplier;

/** The edges of ACTS, of what is kept of them, of the image and of STATUS (promises 12 to 18, 34, 35). */
public final class EdgeActTest {
    private static final Check CHECK = new Check();
    private static final String ONE = "link 0 1 1 9;tunnel 0 1 3 2 2;";

    private EdgeActTest() {
    }

    private static void refused(String what, TunnelPlan x, IntSupplier call) {
        int acts = x.count(11);
        int status = x.count(15);
        CHECK.same(what, call.getAsInt(), -1);
        CHECK.same(what + " is counted", x.count(15), status + 1);
        CHECK.same(what + " is no act", x.count(11), acts);
    }

    private static void done(String what, TunnelPlan x, int due, IntSupplier call) {
        int acts = x.count(11);
        int status = x.count(15);
        CHECK.same(what, call.getAsInt(), due);
        CHECK.same(what + " isn't counted", x.count(15), status);
        CHECK.same(what + " is an act", x.count(11), Math.min(40, acts + 1));
    }

    private static int told(boolean done) {
        return done ? 1 : -1;
    }

    // ---- each act, on both sides of what it asks for

    private static void settingUp() {
        TunnelPlan x = Tape.plan(ONE + "tunnel 0 1 6 2 2;tunnel 0 1 7 2 2;");
        done("it doesn't stand", x, 0, () -> x.setUp(0));
        refused("it stands", x, () -> x.setUp(0));
        refused("7 of the 6 that are left", x, () -> x.setUp(2));
        done("6 of them", x, 0, () -> x.setUp(1));
        TunnelPlan none = Tape.plan("tunnel 0 1 1 0 0;");
        refused("no link at all", none, () -> none.setUp(0));
    }

    private static void tearingDown() {
        TunnelPlan x = Tape.plan(ONE);
        refused("it doesn't stand", x, () -> told(x.tearDown(0)));
        done("set up", x, 0, () -> x.setUp(0));
        done("it stands", x, 1, () -> told(x.tearDown(0)));
        CHECK.row("nothing of it", i -> x.count(3 + i), 0, 1, 0, 0);
        refused("it stands no more", x, () -> told(x.tearDown(0)));
        done("again", x, 0, () -> x.setUp(0));
        x.fail(0);
        refused("it is lost", x, () -> told(x.tearDown(0)));
    }

    private static void moving() {
        TunnelPlan x = Tape.plan("link 0 1 2 9;link 0 1 3 9;tunnel 0 1 3 2 2;");
        refused("it doesn't stand", x, () -> x.move(0));
        done("set up", x, 0, () -> x.setUp(0));
        refused("it has its best way", x, () -> x.move(0));
        done("off it", x, 0, () -> x.fail(0));
        refused("the best way that is left", x, () -> x.move(0));
        done("mended", x, 1, () -> told(x.mend(0)));
        CHECK.same("it stays where it is", x.way(0, 0), 1);
        done("another one", x, 0, () -> x.move(0));
        CHECK.same("there", x.way(0, 0), 0);
        refused("it has it", x, () -> x.move(0));
    }

    /** A like way is another one, if it is the first by the rules. */
    private static void movingToALikeWay() {
        TunnelPlan x = Tape.plan("link 0 1 2 9;link 0 1 2 9;tunnel 0 1 3 2 2;");
        x.fail(0);
        x.setUp(0);
        x.mend(0);
        done("the first of like ones", x, 0, () -> x.move(0));
        CHECK.same("there", x.way(0, 0), 0);
    }

    private static void movingPushesOut() {
        // 1 goes to link 0, off which 0 had been pushed by nobody: 0 holds 7 there.
        TunnelPlan x = Tape.plan("link 0 1 2 5;link 0 1 3 5;link 0 1 4 5;tunnel 0 1 5 7 7;tunnel 0 1 5 3 3;");
        x.fail(0);
        x.setUp(1);
        x.mend(0);
        x.setUp(0);
        CHECK.row("where they are", t -> x.way(t, 0), 0, 1);
        done("how many were pushed out", x, 1, () -> x.move(1));
        CHECK.row("where they are then", t -> x.way(t, 0), 1, 0);
    }

    private static void resizing() {
        for (int bandwidth = -1; bandwidth <= 101; bandwidth++) {
            int given = bandwidth;
            TunnelPlan x = Tape.plan("link 0 1 1 60;tunnel 0 1 50 2 2;");
            // One that doesn't stand: 1 to 99, but for what it has.
            if (bandwidth < 1 || bandwidth > 99 || bandwidth == 50) {
                refused("resize to " + bandwidth, x, () -> x.resize(0, given));
                CHECK.same("as it was", x.tunnel(0, 2), 50);
            } else {
                done("resize to " + bandwidth, x, 50, () -> x.resize(0, given));
                CHECK.same("as asked", x.tunnel(0, 2), bandwidth);
                CHECK.same("it doesn't stand", x.count(3), 0);
                x.undo();
                CHECK.same("undone", x.tunnel(0, 2), 50);
            }
            // One that stands: with a best way, too.
            x.setUp(0);
            if (bandwidth < 1 || bandwidth > 60 || bandwidth == 50) {
                refused("resize what stands to " + bandwidth, x, () -> x.resize(0, given));
                CHECK.same("taken as it was", x.count(5), 50);
            } else {
                done("resize what stands to " + bandwidth, x, 50, () -> x.resize(0, given));
                CHECK.same("taken as asked", x.count(5), bandwidth);
            }
        }
        TunnelPlan x = Tape.plan("link 0 1 1 60;tunnel 0 1 50 2 2;");
        refused("the least int", x, () -> x.resize(0, Integer.MIN_VALUE));
        refused("the greatest int", x, () -> x.resize(0, Integer.MAX_VALUE));
        done("to 1", x, 50, () -> x.resize(0, 1));
        refused("to 1 again", x, () -> x.resize(0, 1));
        done("to 99", x, 1, () -> x.resize(0, 99));
    }

    /** Who holds as strong as its SETUP isn't pushed out for more, who holds weaker is. */
    private static void resizingAgainstOthers() {
        for (int hold = 2; hold <= 3; hold++) {
            TunnelPlan x = Tape.plan("link 0 1 1 9;tunnel 0 1 5 2 2;tunnel 0 1 4 7 " + hold + ";");
            x.setUp(0);
            x.setUp(1);
            if (hold == 2) {
                refused("6 beside 4 that stay", x, () -> x.resize(0, 6));
                CHECK.row("as it was", i -> x.count(3 + i), 3, 1, 9);
            } else {
                done("6 beside 4 that needn't", x, 5, () -> x.resize(0, 6));
                CHECK.row("alone", i -> x.count(3 + i), 1, 1, 6);
            }
        }
    }

    /** When it is resized it takes its best way, which may be another one, even with less. */
    private static void resizingMovesIt() {
        TunnelPlan x = Tape.plan("link 0 1 1 5;link 0 1 2 9;tunnel 0 1 6 2 2;");
        x.setUp(0);
        CHECK.same("on link 1", x.way(0, 0), 1);
        done("less", x, 6, () -> x.resize(0, 5));
        CHECK.same("on link 0", x.way(0, 0), 0);
        done("more", x, 5, () -> x.resize(0, 6));
        CHECK.same("on link 1 again", x.way(0, 0), 1);
        CHECK.row("taken", i -> x.link(i, 6), 0, 6);
    }

    private static void failing() {
        TunnelPlan x = Tape.plan("link 0 1 1 9;link 0 1 1 9;tunnel 0 1 3 2 2;");
        done("one that nobody is on", x, 0, () -> x.fail(1));
        refused("it isn't up", x, () -> x.fail(1));
        x.setUp(0);
        done("one that it is on, and no other way", x, 1, () -> x.fail(0));
        CHECK.row("it stands no more", i -> x.count(3 + i), 0, 0, 0);
        refused("it isn't up either", x, () -> x.fail(0));
        TunnelPlan y = Tape.plan("link 0 1 1 9;link 0 1 1 9;tunnel 0 1 3 2 2;");
        y.setUp(0);
        done("it has another way", y, 0, () -> y.fail(0));
        CHECK.same("there", y.way(0, 0), 1);
        CHECK.same("link 15, the last one", last().fail(15), 1);
    }

    /** Sixteen links, of which the last one alone goes to node 2, where a tunnel goes to. */
    private static TunnelPlan last() {
        TunnelPlan x = Tape.plan("nodes 3;" + "link 0 1 1 9;".repeat(15) + "link 0 2 1 9;tunnel 0 2 1 1 1;");
        x.setUp(0);
        return x;
    }

    /** Who stood and doesn't: whoever was on it, and whoever was pushed out by these. */
    private static void failingCountsWhoIsLost() {
        TunnelPlan x = Tape.plan("link 0 1 1 5;link 0 1 2 5;tunnel 0 1 5 3 3;tunnel 0 1 5 6 6;tunnel 0 1 1 7 7;");
        x.setUp(0);
        x.setUp(1);
        CHECK.same("one that doesn't stand anyway isn't counted", x.fail(0), 1);
        CHECK.same("0 has pushed out 1", x.count(3), 1);
        CHECK.same("the last link", x.fail(1), 1);
    }

    private static void mending() {
        TunnelPlan x = Tape.plan(ONE);
        x.setUp(0);
        refused("it is up", x, () -> told(x.mend(0)));
        x.fail(0);
        done("it isn't", x, 1, () -> told(x.mend(0)));
        CHECK.row("up, and nobody comes back", i -> x.count(3 + i), 0, 1, 0);
        refused("it is up again", x, () -> told(x.mend(0)));
        TunnelPlan y = last();
        y.fail(15);
        CHECK.yes("link 15", y.mend(15));
    }

    // ---- what is kept

    /** 39, 40 and 41 acts: at most 40 are kept, the latest ones. */
    private static void fortyActs() {
        for (int many = 38; many <= 85; many++) {
            TunnelPlan x = Tape.plan("link 0 1 1 99;tunnel 0 1 1 1 1;");
            for (int i = 1; i <= many; i++) {
                x.resize(0, 1 + i);
            }
            int kept = Math.min(40, many);
            CHECK.same(many + " acts", x.count(11), kept);
            for (int left = kept - 1; left >= 0; left--) {
                CHECK.same("left of " + many, x.undo(), left);
            }
            CHECK.same("none is left of " + many, x.undo(), -1);
            CHECK.same("as it was ahead of the oldest one that is kept", x.tunnel(0, 2), 1 + many - kept);
            CHECK.same("nothing is counted", x.count(15), 0);
        }
    }

    /** Refused acts push none of the forty out. */
    private static void refusedAreNotKept() {
        TunnelPlan x = Tape.plan("link 0 1 1 99;tunnel 0 1 1 1 1;");
        for (int i = 1; i <= 40; i++) {
            x.resize(0, 1 + i);
        }
        for (int i = 0; i < 5; i++) {
            refused("none", x, () -> x.resize(0, 0));
        }
        for (int left = 39; left >= 0; left--) {
            CHECK.same("left", x.undo(), left);
        }
        CHECK.same("all of them are undone", x.tunnel(0, 2), 1);
    }

    /** Each kind of act, the last one first. */
    private static void eachKindIsUndone() {
        TunnelPlan x = Tape.plan("link 0 1 1 5;link 0 1 2 5;tunnel 0 1 5 6 6;tunnel 0 1 4 2 2;");
        x.setUp(0);
        x.setUp(1);
        CHECK.row("1 has pushed out 0", t -> x.way(t, 0), 1, 0);
        x.resize(1, 3);
        x.tearDown(1);
        x.move(0);
        x.fail(1);
        x.mend(1);
        CHECK.row("in the end", i -> x.count(3 + i), 1, 3, 5, 1);
        CHECK.same("mended is undone", x.undo(), 6);
        CHECK.row("link 1 isn't up", i -> x.count(3 + i), 1, 1, 5, 1);
        CHECK.same("failed is undone", x.undo(), 5);
        CHECK.row("link 1 is up", i -> x.count(3 + i), 1, 3, 5, 1);
        CHECK.same("moved is undone", x.undo(), 4);
        CHECK.row("0 is on link 1", i -> x.count(3 + i), 1, 3, 5, 2);
        CHECK.same("torn down is undone", x.undo(), 3);
        CHECK.row("1 stands", i -> x.count(3 + i), 3, 3, 8, 3);
        CHECK.same("resized is undone", x.undo(), 2);
        CHECK.row("with 4", i -> x.count(3 + i), 3, 3, 9, 3);
        CHECK.same("set up is undone", x.undo(), 1);
        CHECK.row("0 is on link 0", i -> x.count(3 + i), 1, 3, 5, 1);
        CHECK.same("the first is undone", x.undo(), 0);
        CHECK.row("none stands", i -> x.count(3 + i), 0, 3, 0, 0);
        CHECK.same("no more", x.undo(), -1);
        CHECK.row("nothing was refused", i -> x.count(14 + i), 0, 0, 0);
    }

    /** What is undone is no act itself, and an act behind it is kept in its place. */
    private static void actsBehindUndo() {
        TunnelPlan x = Tape.plan("link 0 1 1 99;tunnel 0 1 1 1 1;");
        for (int i = 1; i <= 45; i++) {
            x.resize(0, 1 + i);
        }
        for (int left = 39; left >= 30; left--) {
            CHECK.same("left", x.undo(), left);
        }
        for (int i = 1; i <= 12; i++) {
            x.resize(0, 60 + i);
            CHECK.same("kept", x.count(11), Math.min(40, 30 + i));
        }
        for (int i = 11; i >= 1; i--) {
            x.undo();
            CHECK.same("one of the later ones", x.tunnel(0, 2), 60 + i);
        }
        CHECK.same("the first of these", x.undo(), 28);
        CHECK.same("as it was ahead of them", x.tunnel(0, 2), 36);
        for (int left = 27; left >= 0; left--) {
            CHECK.same("left of the earlier ones", x.undo(), left);
        }
        CHECK.same("two more of these were pushed out", x.tunnel(0, 2), 8);
        CHECK.same("no more", x.undo(), -1);
    }

    // ---- image, restore

    private static void withoutAnImage() {
        TunnelPlan x = Tape.plan(ONE);
        x.setUp(0);
        CHECK.no("there is none", x.restore());
        CHECK.row("as it was", i -> x.count(3 + i), 1, 1, 3);
        CHECK.row("nothing is counted", i -> x.count(14 + i), 0, 0, 0);
        x.image();
        CHECK.yes("there is one", x.restore());
        CHECK.yes("it stays", x.restore());
        Tape.load(x, "x");
        CHECK.yes("behind a text with a fault, too", x.restore());
        CHECK.illegal("no text", () -> x.network(1));
        CHECK.yes("and behind none", x.restore());
        Tape.load(x, ONE);
        CHECK.no("not behind a text", x.restore());
        TunnelPlan y = new TunnelPlan();
        CHECK.no("a new object has none", y.restore());
        y.image();
        CHECK.yes("an image of nothing", y.restore());
    }

    /** Ways, bandwidths, links, acts, what is seen are in it; STATUS, the tape, the fault are not. */
    private static void whatIsInIt() {
        TunnelPlan x = Tape.plan("link 0 1 1 9;link 0 1 2 9;tunnel 0 1 3 2 2;tunnel 0 1 2 2 2;");
        x.setUp(0);
        x.fail(0);
        x.resize(0, 4);
        x.see(0, 1, 9, 7, false);
        x.image();
        x.undo();
        x.mend(0);
        x.move(0);
        x.resize(1, 5);
        x.setUp(1);
        x.forget();
        x.see(0, 1, 1, 1, true);
        x.see(0, 1, 2, 1, true);
        x.see(0, 0, 1, 1, true);
        x.setUp(1);
        Tape.load(x, "link 0 0");
        x.feed(0, 0, 0, 0, 0);
        CHECK.row("ahead of it", i -> x.count(3 + i), 3, 3, 8, 2);
        CHECK.row("more ahead of it", i -> x.count(11 + i), 6, 2, 20, 1, 1, 1);
        CHECK.yes("restored", x.restore());
        CHECK.row("as the image", i -> x.count(3 + i), 1, 2, 4, 2);
        CHECK.row("acts and seen as the image, the others as they were", i -> x.count(11 + i), 3, 1, 20, 1, 1, 1);
        CHECK.same("the fault as it was", x.fault(), 7);
        CHECK.row("bandwidths", t -> x.tunnel(t, 2), 4, 2);
        // Link 0 isn't up: 19 of it. Link 1: from 4, which are taken, to 12, by which 9 are not free; not 9.
        CHECK.row("what was seen", x::other, 19 + 8, 1, 1);
        CHECK.same("resized is undone", x.undo(), 2);
        CHECK.same("bandwidth", x.tunnel(0, 2), 3);
        CHECK.same("failed is undone", x.undo(), 1);
        CHECK.same("on link 0", x.way(0, 0), 0);
        CHECK.same("set up is undone", x.undo(), 0);
        CHECK.same("no more", x.undo(), -1);
        CHECK.yes("restored again", x.restore());
        CHECK.row("as the image again", i -> x.count(3 + i), 1, 2, 4, 2);
        CHECK.row("acts and seen", i -> x.count(11 + i), 3, 1);
    }

    private static void inPlaceOfAnother() {
        TunnelPlan x = Tape.plan(ONE);
        x.image();
        x.setUp(0);
        x.image();
        x.tearDown(0);
        CHECK.yes("restored", x.restore());
        CHECK.row("the latest one", i -> x.count(3 + i), 1, 1, 3);
        CHECK.same("its one act", x.undo(), 0);
        x.image();
        x.setUp(0);
        CHECK.yes("restored", x.restore());
        CHECK.row("one without acts", i -> x.count(3 + i), 0, 1, 0);
        CHECK.same("no act", x.undo(), -1);
    }

    /** Forty acts and eight sights in it. */
    private static void aFullImage() {
        TunnelPlan x = Tape.plan("link 0 1 1 99;tunnel 0 1 1 1 1;");
        for (int i = 1; i <= 41; i++) {
            x.resize(0, 1 + i);
        }
        for (int i = 1; i <= 8; i++) {
            x.see(0, 1, i, 1, true);
        }
        x.image();
        x.forget();
        for (int i = 0; i < 40; i++) {
            x.undo();
        }
        x.resize(0, 99);
        CHECK.yes("restored", x.restore());
        CHECK.row("acts, seen", i -> x.count(11 + i), 40, 8);
        CHECK.same("a ninth", x.see(0, 1, 1, 1, true), -1);
        CHECK.row("8 at least for all of them", x::other, 13, 8, 1);
        for (int left = 39; left >= 0; left--) {
            CHECK.same("left", x.undo(), left);
            CHECK.same("bandwidth", x.tunnel(0, 2), left + 2);
        }
        CHECK.same("no more", x.undo(), -1);
    }

    // ---- behind any acts

    /** A ladder: from each node to the next one and to the one behind it, tunnels of all setups along it. */
    private static String ladder(int run) {
        StringBuilder b = new StringBuilder("nodes 6;");
        for (int i = 0; i < 5; i++) {
            b.append("link ").append(i).append(' ').append(i + 1).append(" 1 ").append(4 + (run + i) % 4).append(';');
            b.append("link ").append(i).append(' ').append(i + 1).append(" 2 ").append(3 + (run * 3 + i) % 5).append(';');
            b.append("link ").append(i).append(' ').append(Math.max(i + 1, i + 2 - i / 4)).append(" 2 ").append(2 + (run / 4 + i) % 6).append(';');
        }
        for (int t = 0; t < 9; t++) {
            int setup = (t * 5 + run) % 8;
            b.append("tunnel ").append(t % 3).append(' ').append(5 - t / 3 % 2).append(' ').append(1 + (t + run) % 4).append(' ');
            b.append(setup).append(' ').append(setup - setup * (t % 2) / 2).append(';');
        }
        return b.toString();
    }

    /** No POOL is below 0, none at a weaker priority is more; what is taken is what those on it ask for. */
    private static void sound(String what, TunnelPlan x) {
        for (int link = 0; link < 15; link++) {
            int sum = 0;
            for (int t = 0; t < 9; t++) {
                sum += (x.link(link, 7) >> t & 1) * x.tunnel(t, 2);
            }
            CHECK.same(what + ": taken of " + link, x.link(link, 6), sum);
            CHECK.same(what + ": pool of " + link + " at 7", x.pool(link, 7), x.link(link, 3) - sum);
            CHECK.yes(what + ": pool of " + link + " isn't below 0", x.pool(link, 7) >= 0);
        }
    }

    /** Setups, resizings, failings .. drawn by a seed; within 512 calls, as sound asks a lot. */
    private static void noLinkIsOverbooked() {
        int s = 99;
        for (int run = 0; run < 400; run++) {
            TunnelPlan x = Tape.plan(ladder(run));
            CHECK.same("links", x.count(1), 15);
            for (int act = 0; act < 30; act++) {
                s = s * 1103515245 + 12345;
                int t = (s >>> 16) % 9;
                int kind = (s >>> 24) % 8;
                if (kind < 4) {
                    x.setUp(t);
                } else if (kind == 4) {
                    x.resize(t, 1 + (s >>> 12) % 6);
                } else if (kind == 5) {
                    x.fail((s >>> 12) % 15);
                } else if (kind == 6) {
                    x.mend((s >>> 12) % 15);
                } else {
                    x.move(t);
                }
            }
            sound("run " + run, x);
        }
    }

    // ---- STATUS, and how many calls

    private static void statusByKinds() {
        TunnelPlan x = Tape.plan(ONE);
        CHECK.row("none", i -> x.count(14 + i), 0, 0, 0);
        for (int i = 1; i <= 3; i++) {
            Tape.load(x, "x");
            CHECK.row("texts", k -> x.count(14 + k), i, 0, 0);
        }
        for (int i = 1; i <= 5; i++) {
            x.move(0);
            CHECK.row("acts", k -> x.count(14 + k), 3, i, 0);
        }
        for (int i = 1; i <= 7; i++) {
            x.see(0, 0, 1, 1, true);
            CHECK.row("sights", k -> x.count(14 + k), 3, 5, i);
        }
        x.image();
        x.restore();
        x.undo();
        x.forget();
        Tape.load(x, ONE);
        CHECK.row("they stay", k -> x.count(14 + k), 3, 5, 7);
    }

    /** The 512th call is answered as any other. */
    private static void fiveHundredAndTwelveCalls() {
        TunnelPlan x = new TunnelPlan();
        Tape.feed(x, "link 0 1 1 99;tunnel");
        Tape.feed(x, " 0 1 1 1 1;         ");
        x.network(40);
        x.setUp(0);
        for (int call = 5; call <= 510; call++) {
            int asked = 1 + (call & 63);
            CHECK.same("call " + call, x.resize(0, asked), call == 5 ? 1 : 1 + (call - 1 & 63));
        }
        CHECK.same("call 511", x.count(5), 1 + (510 & 63));
        CHECK.same("call 512", x.undo(), 39);
    }

    public static void main(String[] args) {
        settingUp();
        tearingDown();
        moving();
        movingToALikeWay();
        movingPushesOut();
        resizing();
        resizingAgainstOthers();
        resizingMovesIt();
        failing();
        failingCountsWhoIsLost();
        mending();
        fortyActs();
        refusedAreNotKept();
        eachKindIsUndone();
        actsBehindUndo();
        withoutAnImage();
        whatIsInIt();
        inPlaceOfAnother();
        aFullImage();
        noLinkIsOverbooked();
        statusByKinds();
        fiveHundredAndTwelveCalls();
        CHECK.end();
    }
}
