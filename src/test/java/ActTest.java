/** Promises 12 to 18: setUp, tearDown, move, resize, fail, mend, undo. */
public final class ActTest {
    private static final Check CHECK = new Check();
    private static final String CHAIN = "link 0 1 1 5;link 0 1 2 5;link 0 1 3 5;"
            + "tunnel 0 1 5 3 3;tunnel 0 1 5 6 6;tunnel 0 1 5 1 1;";

    private ActTest() {
    }

    private static void wrongArguments() {
        TunnelPlan x = Tape.plan("link 0 1 1 5;tunnel 0 1 3 2 2;");
        CHECK.noSuch("setUp(1)", () -> x.setUp(1));
        CHECK.noSuch("setUp(-1)", () -> x.setUp(-1));
        CHECK.noSuchIs("tearDown(1)", () -> x.tearDown(1));
        CHECK.noSuch("move(1)", () -> x.move(1));
        CHECK.noSuch("resize(1, 0), no such tunnel first", () -> x.resize(1, 0));
        CHECK.noSuch("fail(1)", () -> x.fail(1));
        CHECK.noSuch("fail(-1)", () -> x.fail(-1));
        CHECK.noSuchIs("mend(1)", () -> x.mend(1));
        CHECK.same("none of these is refused as an act", x.count(15), 0);
        CHECK.same("none is kept", x.count(11), 0);
    }

    private static void settingUp() {
        TunnelPlan x = Tape.plan(CHAIN);
        CHECK.same("setUp(0)", x.setUp(0), 0);
        CHECK.same("setUp(1)", x.setUp(1), 0);
        CHECK.same("it stands", x.setUp(1), -1);
        CHECK.same("refused", x.count(15), 1);
        CHECK.same("a chain of two", x.setUp(2), 2);
        CHECK.row("all stand", i -> x.way(i, 0), 1, 2, 0);
        CHECK.same("one act", x.count(11), 3);
        TunnelPlan y = Tape.plan("link 0 1 1 5;tunnel 0 1 6 2 2;tunnel 0 1 5 2 2;tunnel 0 1 1 2 2;");
        CHECK.same("too much", y.setUp(0), -1);
        CHECK.same("enough", y.setUp(1), 0);
        CHECK.same("a hold as strong as its setup isn't pushed out", y.setUp(2), -1);
        CHECK.same("refused twice", y.count(15), 2);
    }

    private static void whoWaits() {
        // 3 pushes out 0 and 1 at once. 1 has the stronger setup, so it takes link 1, and 0 finds none.
        TunnelPlan x = Tape.plan("link 0 1 1 6;link 0 1 2 3;tunnel 0 1 3 7 5;tunnel 0 1 3 6 6;tunnel 0 1 1 7 7;tunnel 0 1 6 2 2;");
        x.setUp(0);
        x.setUp(1);
        CHECK.same("two are pushed out", x.setUp(3), 2);
        CHECK.same("the stronger setup stands", x.count(3), 10);
        CHECK.same("on link 1", x.way(1, 0), 1);
        // Of like setups the least number is first.
        TunnelPlan y = Tape.plan("link 0 1 1 6;link 0 1 2 3;tunnel 0 1 3 6 6;tunnel 0 1 3 6 5;tunnel 0 1 6 2 2;");
        y.setUp(0);
        y.setUp(1);
        CHECK.same("two again", y.setUp(2), 2);
        CHECK.same("the least number stands", y.count(3), 5);
    }

    private static void tearingDown() {
        TunnelPlan x = Tape.plan(CHAIN);
        CHECK.no("it doesn't stand", x.tearDown(0));
        CHECK.same("refused", x.count(15), 1);
        x.setUp(0);
        CHECK.yes("it stands", x.tearDown(0));
        CHECK.same("it is free", x.link(0, 6), 0);
        CHECK.no("it stands no more", x.tearDown(0));
        CHECK.same("acts", x.count(11), 2);
    }

    private static void moving() {
        TunnelPlan x = Tape.plan("link 0 1 1 5;link 0 1 2 5;tunnel 0 1 5 3 3;tunnel 0 1 5 6 4;tunnel 0 1 5 1 1;");
        CHECK.same("it doesn't stand", x.move(0), -1);
        x.setUp(2);
        x.setUp(0);
        CHECK.same("it has its best way", x.move(0), -1);
        x.tearDown(2);
        x.setUp(1);
        CHECK.row("where they are", i -> x.way(i, 0), 1, 0);
        CHECK.same("refused", x.count(15), 2);
        CHECK.same("it takes link 0, and who was there link 1", x.move(0), 1);
        CHECK.row("where they are then", i -> x.way(i, 0), 0, 1);
        CHECK.same("it has its best way again", x.move(0), -1);
        CHECK.same("acts", x.count(11), 5);
        // Without room for both ways at once on a link that both have: what it had is its own.
        TunnelPlan y = Tape.plan("nodes 3;link 0 1 1 5;link 1 2 1 5;link 1 2 2 5;tunnel 0 2 5 3 3;");
        y.fail(1);
        y.setUp(0);
        y.mend(1);
        CHECK.same("moved", y.move(0), 0);
        CHECK.row("its way", i -> y.way(0, i), 0, 1);
    }

    private static void resizing() {
        TunnelPlan x = Tape.plan("link 0 1 1 5;link 0 1 2 9;tunnel 0 1 3 3 3;tunnel 0 1 2 6 6;");
        CHECK.same("0", x.resize(0, 0), -1);
        CHECK.same("100", x.resize(0, 100), -1);
        CHECK.same("as it is", x.resize(0, 3), -1);
        CHECK.same("refused", x.count(15), 3);
        CHECK.same("one that doesn't stand", x.resize(0, 99), 3);
        CHECK.same("whatever it asks for", x.tunnel(0, 2), 99);
        CHECK.same("back", x.resize(0, 3), 99);
        x.setUp(0);
        x.setUp(1);
        CHECK.same("both on link 0", x.link(0, 7), 3);
        CHECK.same("4: it pushes out the other one", x.resize(0, 4), 3);
        CHECK.row("where they are", i -> x.way(i, 0), 0, 1);
        CHECK.same("6: it moves itself, beside the other one", x.resize(0, 6), 4);
        CHECK.row("where they are then", i -> x.way(i, 0), 1, 1);
        CHECK.same("10: no way", x.resize(0, 10), -1);
        CHECK.same("as it was", x.tunnel(0, 2), 6);
        CHECK.same("taken", x.link(1, 6), 8);
        CHECK.same("9: what it has is its own", x.resize(0, 9), 6);
        CHECK.row("where they are in the end", i -> x.way(i, 0), 1, 0);
        CHECK.same("acts", x.count(11), 7);
    }

    private static void failing() {
        TunnelPlan x = Tape.plan(CHAIN);
        x.setUp(0);
        x.setUp(1);
        x.setUp(2);
        CHECK.same("link 2 fails: one has none", x.fail(2), 1);
        CHECK.same("it stands no more", x.count(3), 5);
        CHECK.same("links that are up", x.count(4), 3);
        CHECK.same("it isn't up", x.fail(2), -1);
        CHECK.same("refused", x.count(15), 1);
        CHECK.same("link 0 fails: 2 takes link 1, 0 has none", x.fail(0), 1);
        CHECK.same("who stands", x.count(3), 4);
        CHECK.same("link 1 fails", x.fail(1), 1);
        CHECK.yes("mended", x.mend(0));
        CHECK.no("it is up", x.mend(0));
        CHECK.same("nobody comes back", x.count(3), 0);
        CHECK.same("refused twice", x.count(15), 2);
        CHECK.same("acts", x.count(11), 7);
        CHECK.same("nobody was on it", x.fail(0), 0);
        // Two on a link that fails: the stronger setup is first, whatever its number.
        TunnelPlan y = Tape.plan("link 0 1 1 6;link 0 1 2 3;tunnel 0 1 3 5 0;tunnel 0 1 3 4 0;");
        y.setUp(0);
        y.setUp(1);
        CHECK.same("one is lost", y.fail(0), 1);
        CHECK.same("the stronger setup stands", y.count(3), 2);
    }

    private static void undoing() {
        TunnelPlan x = Tape.plan(CHAIN);
        CHECK.same("nothing to undo", x.undo(), -1);
        x.setUp(0);
        x.setUp(1);
        x.setUp(2);
        x.resize(0, 4);
        x.fail(0);
        x.mend(0);
        x.move(2);
        CHECK.same("moved", x.way(2, 0), 0);
        x.tearDown(0);
        CHECK.same("torn down is undone", x.undo(), 7);
        CHECK.same("its way", x.way(0, 0), 2);
        CHECK.same("moved is undone", x.undo(), 6);
        CHECK.same("the way it had", x.way(2, 0), 1);
        CHECK.row("two are undone", i -> x.count(i + 3), 5, 7);
        CHECK.same("mended is undone", x.undo(), 5);
        CHECK.same("link 0 isn't up", x.count(4), 6);
        CHECK.same("failed is undone", x.undo(), 4);
        CHECK.row("four are undone", i -> x.way(i, 0), 1, 2, 0);
        CHECK.same("resized is undone", x.undo(), 3);
        CHECK.same("bandwidth", x.tunnel(0, 2), 5);
        CHECK.same("set up is undone", x.undo(), 2);
        CHECK.row("whom it pushed out too", i -> x.way(i, 0), 0, 1);
        CHECK.same("and so on", x.undo(), 1);
        CHECK.same("to the end", x.undo(), 0);
        CHECK.same("all is as at first", x.count(3), 0);
        CHECK.same("nothing is left", x.undo(), -1);
        CHECK.same("that is no act", x.count(15), 0);
    }

    private static void onlyFortyAreKept() {
        TunnelPlan x = Tape.plan("link 0 1 1 99;tunnel 0 1 1 1 1;");
        for (int i = 2; i <= 47; i++) {
            x.resize(0, i);
            CHECK.same("acts kept", x.count(11), Math.min(40, i - 1));
        }
        for (int i = 39; i >= 0; i--) {
            CHECK.same("acts left", x.undo(), i);
            CHECK.same("bandwidth", x.tunnel(0, 2), i + 7);
        }
        CHECK.same("no more", x.undo(), -1);
        CHECK.same("the oldest one kept", x.tunnel(0, 2), 7);
        x.resize(0, 1);
        CHECK.same("and on", x.undo(), 0);
        CHECK.same("as it was", x.tunnel(0, 2), 7);
    }

    public static void main(String[] args) {
        wrongArguments();
        settingUp();
        whoWaits();
        tearingDown();
        moving();
        resizing();
        failing();
        undoing();
        onlyFortyAreKept();
        CHECK.end();
    }
}
