/** Promises 22 to 28: widest, apart, cuts, flow, distance, room, saved. */
public final class GraphTest {
    private static final Check CHECK = new Check();

    private GraphTest() {
    }

    private static void wrongArguments() {
        TunnelPlan x = Tape.plan("link 0 1 1 5;tunnel 0 1 3 2 2;");
        CHECK.noSuch("widest(2, 2, 9), no such node first", () -> x.widest(2, 2, 9));
        CHECK.noSuch("widest(0, -1, 0)", () -> x.widest(0, -1, 0));
        CHECK.illegal("widest(1, 1, 0)", () -> x.widest(1, 1, 0));
        CHECK.illegal("widest(0, 1, 8)", () -> x.widest(0, 1, 8));
        CHECK.illegal("widest(0, 1, -1)", () -> x.widest(0, 1, -1));
        CHECK.noSuch("apart(1)", () -> x.apart(1));
        CHECK.noSuch("apart(-1)", () -> x.apart(-1));
        CHECK.noSuch("cuts(2, 2), no such node first", () -> x.cuts(2, 2));
        CHECK.noSuch("cuts(0, 2)", () -> x.cuts(0, 2));
        CHECK.illegal("cuts(1, 1)", () -> x.cuts(1, 1));
        CHECK.noSuch("flow(-1, -1, 9), no such node first", () -> x.flow(-1, -1, 9));
        CHECK.illegal("flow(0, 0, 0)", () -> x.flow(0, 0, 0));
        CHECK.illegal("flow(0, 1, 8)", () -> x.flow(0, 1, 8));
        CHECK.illegal("flow(0, 1, -1)", () -> x.flow(0, 1, -1));
        CHECK.noSuch("distance(0, 2)", () -> x.distance(0, 2));
        CHECK.noSuch("distance(-1, -1)", () -> x.distance(-1, -1));
        CHECK.noSuch("room(1)", () -> x.room(1));
        CHECK.noSuch("saved(1)", () -> x.saved(1));
        CHECK.noSuch("saved(-1)", () -> x.saved(-1));
    }

    private static void widest() {
        TunnelPlan x = Tape.plan("nodes 4;link 0 1 1 9;link 1 3 1 7;link 0 2 1 8 15;link 2 3 1 8 15;link 0 3 1 6;tunnel 0 3 8 5 3 1;tunnel 2 3 8 5 3;");
        CHECK.same("whatever the colours", x.widest(0, 3, 0), 8);
        x.setUp(1);
        CHECK.same("at a stronger priority", x.widest(0, 3, 2), 8);
        CHECK.same("at its hold", x.widest(0, 3, 3), 7);
        CHECK.same("nothing left", x.widest(2, 3, 7), 0);
        CHECK.same("no way", x.widest(3, 0, 7), 0);
        x.fail(0);
        CHECK.same("by links that are up", x.widest(0, 3, 7), 6);
    }

    private static void apart() {
        // The least way 0-1-2-3 leaves no second one; the two others are apart.
        TunnelPlan x = Tape.plan("nodes 4;link 0 1 1 1;link 1 2 1 1;link 2 3 1 1;link 0 2 4 1;link 1 3 5 1;"
                + "tunnel 0 3 9 5 5;tunnel 0 3 1 5 5 0 1;tunnel 0 1 1 5 5;");
        CHECK.same("both, fits or not", x.apart(0), 11);
        CHECK.same("hops", x.apart(1), -1);
        CHECK.same("one way alone", x.apart(2), -1);
        x.fail(4);
        CHECK.same("not up", x.apart(0), -1);
        TunnelPlan y = Tape.plan("link 0 1 1 1;link 0 1 2 1 1;link 0 1 3 1;tunnel 0 1 1 5 5;tunnel 0 1 1 5 5 1;");
        CHECK.same("links side by side", y.apart(0), 3);
        CHECK.same("colours", y.apart(1), 4);
    }

    private static void cuts() {
        TunnelPlan x = Tape.plan("nodes 5;link 0 1 1 1;link 1 2 1 1;link 1 2 1 1;link 2 3 1 1;link 3 0 1 1;");
        CHECK.same("from 0 to 3", x.cuts(0, 3), 9);
        CHECK.same("from 3 to 0", x.cuts(3, 0), 16);
        CHECK.same("from 1 to 2", x.cuts(1, 2), 0);
        CHECK.same("to a node that none goes to", x.cuts(0, 4), 0);
        x.fail(1);
        CHECK.same("by links that are up", x.cuts(0, 3), 13);
        x.fail(2);
        CHECK.same("none anyway", x.cuts(0, 3), 0);
    }

    private static void flow() {
        // What is sent 0-1-2-3 at first must be taken back in part.
        TunnelPlan x = Tape.plan("nodes 4;link 0 1 1 5;link 1 2 1 5;link 2 3 1 5;link 0 2 1 5;link 1 3 1 5;tunnel 0 1 2 5 5;tunnel 0 1 3 7 7;");
        CHECK.same("by both", x.flow(0, 3, 0), 10);
        x.setUp(0);
        x.setUp(1);
        CHECK.row("by pools", p -> x.flow(0, 3, p), 10, 10, 10, 10, 10, 8, 8, 5);
        CHECK.same("nothing back", x.flow(3, 0, 0), 0);
        x.fail(3);
        CHECK.same("by links that are up", x.flow(0, 3, 0), 5);
        TunnelPlan y = Tape.plan("nodes 4;link 0 1 1 1;link 1 2 1 1;link 2 3 1 1;link 0 2 1 1;link 1 3 1 1;");
        CHECK.same("one by one", y.flow(0, 3, 7), 2);
    }

    private static void distance() {
        TunnelPlan x = Tape.plan("nodes 8;link 0 1 99 1;link 1 2 99 1;link 2 3 99 1;link 3 4 99 1;link 4 5 99 1;link 5 6 99 1;link 6 7 99 1;link 0 2 5 1;tunnel 0 2 1 1 1;");
        CHECK.same("the least", x.distance(0, 7), 5 + 5 * 99);
        x.setUp(0);
        CHECK.same("whatever they have", x.distance(0, 2), 5);
        x.fail(7);
        CHECK.same("seven links", x.distance(0, 7), 693);
        CHECK.same("to itself", x.distance(3, 3), 0);
        CHECK.same("none", x.distance(7, 0), -1);
    }

    private static void room() {
        TunnelPlan x = Tape.plan("nodes 3;link 0 1 1 9;link 1 2 1 8;link 0 2 1 5;link 0 2 1 99 2;"
                + "tunnel 0 2 1 4 4 2;tunnel 0 2 1 4 4 2 1;tunnel 1 2 3 5 5;tunnel 2 0 1 1 1;tunnel 1 2 2 4 4;tunnel 0 2 1 4 4;");
        CHECK.row("at first", x::room, 8, 5, 8, 0, 8, 99);
        x.setUp(2);
        CHECK.row("who holds weaker is nothing to it", x::room, 8, 5, 8, 0, 8);
        x.setUp(4);
        CHECK.row("who holds as strong is", x::room, 6, 5, 6, 0, 8);
        x.fail(1);
        CHECK.row("by links that are up", x::room, 5, 5, 0, 0, 0);
    }

    private static void saved() {
        TunnelPlan x = Tape.plan("link 0 1 1 9;link 0 1 2 3;tunnel 0 1 3 4 4;tunnel 0 1 3 4 4;tunnel 0 1 4 4 4;");
        CHECK.same("nobody is on it", x.saved(0), 0);
        x.setUp(0);
        x.setUp(1);
        CHECK.same("each by itself", x.saved(0), 3);
        x.setUp(2);
        CHECK.same("2 is on link 0 no more, nor link 1", x.count(3), 3);
        x.resize(0, 2);
        x.setUp(2);
        CHECK.same("2 asks for too much", x.saved(0), 3);
        CHECK.same("nobody is on link 1", x.saved(1), 0);
        x.fail(1);
        CHECK.same("none without link 1", x.saved(0), 0);
        CHECK.same("it isn't up", x.saved(1), 0);
    }

    public static void main(String[] args) {
        wrongArguments();
        widest();
        apart();
        cuts();
        flow();
        distance();
        room();
        saved();
        CHECK.end();
    }
}
