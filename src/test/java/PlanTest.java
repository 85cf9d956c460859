/** Promises 19 to 21: planned, order, toBreak. */
public final class PlanTest {
    private static final Check CHECK = new Check();

    private PlanTest() {
    }

    private static void wrongArguments() {
        TunnelPlan x = Tape.plan("link 0 1 1 5;tunnel 0 1 3 2 2;");
        CHECK.noSuch("planned(1, 0)", () -> x.planned(1, 0));
        CHECK.noSuch("planned(-1, 0)", () -> x.planned(-1, 0));
        CHECK.noSuch("planned(0, -1)", () -> x.planned(0, -1));
        CHECK.same("planned(0, MAX)", x.planned(0, Integer.MAX_VALUE), -1);
        CHECK.noSuch("order(-1)", () -> x.order(-1));
        CHECK.same("order(MAX)", x.order(Integer.MAX_VALUE), -1);
        CHECK.same("nothing to break", x.toBreak(), 0);
    }

    private static void planning() {
        // By setup: 2, then by hold: 1, then by number: 0, 3; 3 finds no room, and pushes nobody out.
        TunnelPlan x = Tape.plan("link 0 1 3 5;link 0 1 2 5;link 0 1 1 5;tunnel 0 1 5 4 4;tunnel 0 1 5 4 2;tunnel 0 1 5 3 3;tunnel 0 1 5 4 4;");
        CHECK.row("the plan", t -> x.planned(t, 0), 0, 1, 2, -1);
        CHECK.row("it has no more", i -> x.planned(2, i), 2, -1, -1);
        x.setUp(3);
        CHECK.row("whoever stands", t -> x.planned(t, 0), 0, 1, 2, -1);
        x.fail(1);
        CHECK.row("by links that are up", t -> x.planned(t, 0), -1, 0, 2, -1);
        x.mend(1);
        x.resize(2, 6);
        CHECK.row("by bandwidths", t -> x.planned(t, 0), 1, 2, -1, 0);
        x.resize(2, 2);
        x.resize(1, 3);
        CHECK.row("two on one link", t -> x.planned(t, 0), 1, 2, 2, 0);
        TunnelPlan z = Tape.plan("link 0 1 1 5;tunnel 0 1 5 7 0;tunnel 0 1 5 6 6;");
        CHECK.row("setup ahead of hold", t -> z.planned(t, 0), -1, 0);
        // A stronger setup with a weaker hold: nobody is pushed out for it, or by it, by pools at 7.
        TunnelPlan y = Tape.plan("link 0 1 1 5;tunnel 0 1 5 3 3;tunnel 0 1 5 2 2;tunnel 0 1 1 7 0;");
        CHECK.row("none pushed out", t -> y.planned(t, 0), -1, 0, -1);
    }

    private static void ordering() {
        TunnelPlan x = Tape.plan("link 0 1 1 5;link 0 1 2 5;link 0 1 3 5;tunnel 0 1 5 1 1;tunnel 0 1 5 2 2;");
        x.fail(0);
        x.setUp(0);
        x.setUp(1);
        x.mend(0);
        // 0 is on link 1 and is to go to 0, 1 on link 2 and is to go to 1: 0 must be first.
        CHECK.row("the order", x::order, 0, 1, -1);
        CHECK.same("nothing to break", x.toBreak(), 0);
        x.move(0);
        CHECK.row("one is left", x::order, 1, -1);
        x.move(1);
        CHECK.row("none is left", x::order, -1);
        // The same with the numbers changed: the order isn't by numbers where it can't be.
        TunnelPlan y = Tape.plan("link 0 1 1 5;link 0 1 2 5;link 0 1 3 5;tunnel 0 1 5 2 2;tunnel 0 1 5 1 1;");
        y.fail(0);
        y.setUp(1);
        y.setUp(0);
        y.mend(0);
        CHECK.row("1 first", y::order, 1, 0, -1);
        // Both may go at once: by numbers.
        TunnelPlan z = Tape.plan("link 0 1 1 9;link 0 1 2 9;tunnel 0 1 2 2 2;tunnel 0 1 2 1 1;");
        z.fail(0);
        z.setUp(1);
        z.setUp(0);
        z.mend(0);
        CHECK.row("by numbers", z::order, 0, 1, -1);
        z.tearDown(0);
        CHECK.row("only who stands", z::order, 1, -1);
    }

    private static void breaking() {
        // 0 and 1 are each on the other's way: no order, so one must be broken.
        TunnelPlan x = Tape.plan("link 0 1 1 5;link 0 1 2 5;tunnel 0 1 5 1 1;tunnel 0 1 5 2 1;");
        x.setUp(1);
        x.setUp(0);
        CHECK.row("where they are", t -> x.way(t, 0), 1, 0);
        CHECK.row("where they shall be", t -> x.planned(t, 0), 0, 1);
        CHECK.same("no order", x.order(0), -1);
        CHECK.same("the least as bits is broken", x.toBreak(), 1);
        CHECK.same("nothing changed", x.count(3), 3);
        // Each of three is on the way of another one: whichever is broken, the others can be moved.
        TunnelPlan y = Tape.plan("link 0 1 1 5;link 0 1 2 5;link 0 1 3 5;tunnel 0 1 5 1 1;tunnel 0 1 5 2 1;tunnel 0 1 5 3 1;");
        y.setUp(2);
        y.setUp(0);
        y.setUp(1);
        CHECK.row("three in a ring", t -> y.way(t, 0), 1, 2, 0);
        CHECK.same("no order of three", y.order(0), -1);
        CHECK.same("one of the ring", y.toBreak(), 1);
    }

    private static void cantEnd() {
        // 2 stands on link 0 and has no way by the plan, so it stays, and 0 can't come to link 0.
        TunnelPlan x = Tape.plan("link 0 1 1 5;link 0 1 2 5;tunnel 0 1 5 1 1;tunnel 0 1 5 2 1;tunnel 0 1 5 3 1;");
        x.setUp(2);
        x.setUp(0);
        CHECK.row("where they are", t -> x.tunnel(t, 7) == 1 ? x.way(t, 0) : -1, 1, -1, 0);
        CHECK.row("where they shall be", t -> x.planned(t, 0), 0, 1, -1);
        CHECK.same("no order", x.order(0), -1);
        CHECK.same("none to break helps", x.toBreak(), -1);
    }

    private static void bothWaysAtOnce() {
        // On a link of both ways it takes its bandwidth once: 0 can be moved though link 0 is full.
        TunnelPlan x = Tape.plan("nodes 3;link 0 1 1 5;link 1 2 1 5;link 1 2 2 5;tunnel 0 2 5 3 3;");
        x.fail(1);
        x.setUp(0);
        x.mend(1);
        CHECK.row("the order", x::order, 0, -1);
        CHECK.same("nothing to break", x.toBreak(), 0);
    }

    public static void main(String[] args) {
        wrongArguments();
        planning();
        ordering();
        breaking();
        cantEnd();
        bothWaysAtOnce();
        CHECK.end();
    }
}
