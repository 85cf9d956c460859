import java.util.function.Consumer;
import java.util.function.IntUnaryOperator;

/** What stays as it was: behind calls that are refused, that throw, and that only ask. */
public final class RefusedTest {
    private static final Check CHECK = new Check();
    private static final int ACTS = 1;
    private static final int SEEN = 2;
    private static final int NOT_COUNTED = -1;
    private static final String TWENTY_BYTES = "link 0 1 7 5;link   ";

    private RefusedTest() {
    }

    /** It has acts, sights, an image, a fault, refusals of each kind, and a link that isn't up; its tape is empty. */
    private static TunnelPlan tapeless() {
        TunnelPlan x = Tape.plan("nodes 3;link 0 1 1 5;link 0 1 2 5 1;link 1 2 1 9;link 2 1 3 3;"
                + "tunnel 0 1 3 2 2;tunnel 0 1 4 6 6;tunnel 0 2 2 7 7;tunnel 2 0 1 1 1;");
        x.setUp(0);
        x.setUp(2);
        x.fail(3);
        x.fail(1);
        x.see(0, 1, 1, 7, true);
        x.image();
        x.mend(1);
        x.setUp(1);
        x.resize(0, 1);
        x.see(1, 2, 9, 7, false);
        x.setUp(0);
        x.see(0, 0, 1, 1, true);
        Tape.load(x, "link x");
        return x;
    }

    /** As above, and with bytes on the tape. */
    private static TunnelPlan lived() {
        TunnelPlan x = tapeless();
        Tape.feed(x, TWENTY_BYTES);
        return x;
    }

    private static TunnelPlan seenEight() {
        TunnelPlan x = lived();
        for (int i = x.count(12); i < 8; i++) {
            x.see(0, 1, 1 + i, 7, true);
        }
        return x;
    }

    private static TunnelPlan fullTape() {
        TunnelPlan x = lived();
        for (int i = 1; i < 35; i++) {
            Tape.feed(x, TWENTY_BYTES);
        }
        return x;
    }

    private static TunnelPlan allUndone() {
        TunnelPlan x = lived();
        for (int i = 0; i < 7; i++) {
            x.undo();
        }
        return x;
    }

    private static void act(String what, Consumer<TunnelPlan> call) {
        Trace.staysBehind(CHECK, what, RefusedTest::lived, call, ACTS);
    }

    private static void sight(String what, Consumer<TunnelPlan> call) {
        Trace.staysBehind(CHECK, what, RefusedTest::lived, call, SEEN);
    }

    private static void quiet(String what, Consumer<TunnelPlan> call) {
        Trace.staysBehind(CHECK, what, RefusedTest::lived, call, NOT_COUNTED);
    }

    private static void none(String what, int got) {
        CHECK.same(what, got, TunnelPlan.NONE);
    }

    private static void lives() {
        TunnelPlan x = lived();
        CHECK.row("the object of these tests", i -> x.count(i + 3), 7, 7, 9, 5);
        CHECK.row("its acts, sights, tape, status", i -> x.count(i + 11), 7, 2, 20, 1, 1, 1);
        CHECK.same("its fault", x.fault(), 5);
    }

    private static void acts() {
        act("setUp of one that stands", x -> none("setUp(0)", x.setUp(0)));
        act("setUp without a way", x -> none("setUp(3)", x.setUp(3)));
        act("tearDown of one that doesn't stand", x -> CHECK.no("tearDown(3)", x.tearDown(3)));
        act("move of one that doesn't stand", x -> none("move(3)", x.move(3)));
        act("move of one that has its best way", x -> none("move(0)", x.move(0)));
        act("resize to 0", x -> none("resize(0, 0)", x.resize(0, 0)));
        act("resize to 100", x -> none("resize(0, 100)", x.resize(0, 100)));
        act("resize to -1", x -> none("resize(0, -1)", x.resize(0, -1)));
        act("resize to the least int", x -> none("resize(0, MIN)", x.resize(0, Integer.MIN_VALUE)));
        act("resize to the greatest int", x -> none("resize(3, MAX)", x.resize(3, Integer.MAX_VALUE)));
        act("resize to 0 of one that doesn't stand", x -> none("resize(3, 0)", x.resize(3, 0)));
        act("resize to 100 of one that doesn't stand", x -> none("resize(3, 100)", x.resize(3, 100)));
        act("resize as it is", x -> none("resize(0, 1)", x.resize(0, 1)));
        act("resize as it is, of one that doesn't stand", x -> none("resize(3, 1)", x.resize(3, 1)));
        act("resize without a way", x -> none("resize(0, 6)", x.resize(0, 6)));
        act("fail of one that isn't up", x -> none("fail(3)", x.fail(3)));
        act("mend of one that is up", x -> CHECK.no("mend(0)", x.mend(0)));
    }

    /** STATUS 1 isn't told where undo() answers NONE, and nothing at all where restore() is false. */
    private static void withoutAny() {
        Trace.staysBehind(CHECK, "undo without acts", RefusedTest::allUndone, x -> none("undo()", x.undo()), NOT_COUNTED);
        Trace.staysBehind(CHECK, "undo on a new object", TunnelPlan::new, x -> none("undo()", x.undo()), NOT_COUNTED);
        Trace.staysBehind(CHECK, "restore without an image", () -> {
            TunnelPlan x = Tape.plan("link 0 1 1 5;tunnel 0 1 3 2 2;");
            x.setUp(0);
            return x;
        }, x -> CHECK.no("restore()", x.restore()), NOT_COUNTED);
    }

    private static void sights() {
        sight("both nodes are one", x -> none("see(1, 1)", x.see(1, 1, 1, 1, true)));
        sight("bandwidth 0", x -> none("see bandwidth 0", x.see(0, 1, 0, 1, true)));
        sight("bandwidth 100", x -> none("see bandwidth 100", x.see(0, 1, 100, 1, true)));
        sight("bandwidth the least int", x -> none("see bandwidth MIN", x.see(0, 1, Integer.MIN_VALUE, 1, true)));
        sight("setup -1", x -> none("see setup -1", x.see(0, 1, 1, -1, false)));
        sight("setup 8", x -> none("see setup 8", x.see(0, 1, 1, 8, false)));
        sight("all of them at once are counted once", x -> none("see(1, 1, 0, 8)", x.see(1, 1, 0, 8, true)));
        Trace.staysBehind(CHECK, "there are 8", RefusedTest::seenEight, x -> none("a ninth", x.see(0, 1, 1, 1, true)), SEEN);
        Trace.staysBehind(CHECK, "there are 8, and setup", RefusedTest::seenEight, x -> none("a ninth", x.see(0, 1, 1, 8, true)), SEEN);
        Trace.staysBehind(CHECK, "there are 8, and no such node ahead", RefusedTest::seenEight,
                x -> CHECK.noSuch("see(0, 3)", () -> x.see(0, 3, 1, 1, true)), NOT_COUNTED);
    }

    private static void text(String text, int fault, int place) {
        Trace.staysBehindText(CHECK, "the text " + text, RefusedTest::tapeless, x -> {
            CHECK.same("network of " + text, Tape.load(x, text), fault);
            CHECK.same("place in " + text, x.fault(), place);
        });
    }

    private static void texts() {
        text("x", 1, 0);
        text("nodes 2;link 0 1 1 1;tunnel 0 1 1 1 1;;", 1, 38);
        text("nodes 9;", 2, 6);
        text("link 0 1 1 1;".repeat(17), 2, 208);
        text("tunnel 0 1 1 1 1;".repeat(10), 2, 153);
        text("nodes 3;link 0 1 1 1;tunnel 0 1 1 1 1;link 0 3 1 1;", 3, 45);
        text("link 1 1 1 1;", 4, 7);
    }

    private static void tape() {
        Trace.staysBehind(CHECK, "feed beyond 700", RefusedTest::fullTape, x -> none("feed", x.feed(1, 2, 3, 4, 5)), NOT_COUNTED);
        quiet("network of more than there is", x -> CHECK.illegal("network(21)", () -> x.network(21)));
        quiet("network of fewer than none", x -> CHECK.illegal("network(-1)", () -> x.network(-1)));
        quiet("network of the greatest int", x -> CHECK.illegal("network(MAX)", () -> x.network(Integer.MAX_VALUE)));
        Trace.staysBehind(CHECK, "network of 701", RefusedTest::fullTape, x -> CHECK.illegal("network(701)", () -> x.network(701)), NOT_COUNTED);
    }

    private static void noSuch(String what, IntUnaryOperator call) {
        for (int wrong : new int[] {-1, Integer.MIN_VALUE, Integer.MAX_VALUE}) {
            CHECK.noSuch(what + " of " + wrong, () -> call.applyAsInt(wrong));
        }
    }

    /** Links 0 to 3, tunnels 0 to 3, nodes 0 to 2: the first that there isn't, and such as there never are. */
    private static void thrownForWhatThereIsnt() {
        quiet("no such link", x -> {
            noSuch("link", i -> x.link(i, 0));
            CHECK.noSuch("link 4", () -> x.link(4, 0));
            noSuch("pool", i -> x.pool(i, 0));
            CHECK.noSuch("pool of 4", () -> x.pool(4, 0));
            noSuch("fail", x::fail);
            CHECK.noSuch("fail(4)", () -> x.fail(4));
            noSuch("mend", i -> x.mend(i) ? 1 : 0);
            CHECK.noSuchIs("mend(4)", () -> x.mend(4));
            noSuch("saved", x::saved);
            CHECK.noSuch("saved(4)", () -> x.saved(4));
        });
        quiet("no such tunnel, asked", x -> {
            noSuch("tunnel", i -> x.tunnel(i, 0));
            CHECK.noSuch("tunnel 4", () -> x.tunnel(4, 0));
            noSuch("way", i -> x.way(i, 0));
            CHECK.noSuch("way of 4", () -> x.way(4, 0));
            noSuch("best", i -> x.best(i, 0));
            CHECK.noSuch("best of 4", () -> x.best(4, 0));
            noSuch("pushes", i -> x.pushes(i, 0));
            CHECK.noSuch("pushes of 4", () -> x.pushes(4, 0));
            noSuch("planned", i -> x.planned(i, 0));
            CHECK.noSuch("planned of 4", () -> x.planned(4, 0));
            noSuch("apart", x::apart);
            CHECK.noSuch("apart(4)", () -> x.apart(4));
            noSuch("room", x::room);
            CHECK.noSuch("room(4)", () -> x.room(4));
            noSuch("luck", i -> x.luck(i, 0));
            CHECK.noSuch("luck of 4", () -> x.luck(4, 0));
        });
        quiet("no such tunnel, an act", x -> {
            noSuch("setUp", x::setUp);
            CHECK.noSuch("setUp(4)", () -> x.setUp(4));
            noSuch("tearDown", i -> x.tearDown(i) ? 1 : 0);
            CHECK.noSuchIs("tearDown(4)", () -> x.tearDown(4));
            noSuch("move", x::move);
            CHECK.noSuch("move(4)", () -> x.move(4));
            noSuch("resize", i -> x.resize(i, 5));
            CHECK.noSuch("resize of 4", () -> x.resize(4, 5));
        });
        quiet("no such node, the first one", x -> {
            noSuch("widest from", i -> x.widest(i, 1, 0));
            CHECK.noSuch("widest from 3", () -> x.widest(3, 1, 0));
            noSuch("cuts from", i -> x.cuts(i, 1));
            CHECK.noSuch("cuts from 3", () -> x.cuts(3, 1));
            noSuch("flow from", i -> x.flow(i, 1, 0));
            CHECK.noSuch("flow from 3", () -> x.flow(3, 1, 0));
            noSuch("distance from", i -> x.distance(i, 1));
            CHECK.noSuch("distance from 3", () -> x.distance(3, 1));
            noSuch("see from", i -> x.see(i, 1, 1, 1, true));
            CHECK.noSuch("see from 3", () -> x.see(3, 1, 1, 1, true));
        });
        quiet("no such node, the second one", x -> {
            noSuch("widest to", i -> x.widest(1, i, 0));
            CHECK.noSuch("widest to 3", () -> x.widest(1, 3, 0));
            noSuch("cuts to", i -> x.cuts(1, i));
            CHECK.noSuch("cuts to 3", () -> x.cuts(1, 3));
            noSuch("flow to", i -> x.flow(1, i, 0));
            CHECK.noSuch("flow to 3", () -> x.flow(1, 3, 0));
            noSuch("distance to", i -> x.distance(1, i));
            CHECK.noSuch("distance to 3", () -> x.distance(1, 3));
            noSuch("see to", i -> x.see(1, i, 1, 1, true));
            CHECK.noSuch("see to 3", () -> x.see(1, 3, 1, 1, true));
        });
    }

    private static void thrownForWhatIsAsked() {
        quiet("another what", x -> {
            noSuch("count", x::count);
            CHECK.noSuch("count(17)", () -> x.count(17));
            noSuch("link 0", what -> x.link(0, what));
            CHECK.noSuch("link(0, 8)", () -> x.link(0, 8));
            noSuch("tunnel 0", what -> x.tunnel(0, what));
            CHECK.noSuch("tunnel(0, 11)", () -> x.tunnel(0, 11));
            noSuch("pushes 0", what -> x.pushes(0, what));
            CHECK.noSuch("pushes(0, 2)", () -> x.pushes(0, 2));
            CHECK.noSuch("pushes(3, 2), without a way", () -> x.pushes(3, 2));
            noSuch("other", x::other);
            CHECK.noSuch("other(3)", () -> x.other(3));
            noSuch("years", what -> x.years(1, 1, what));
            CHECK.noSuch("years(1, 1, 3)", () -> x.years(1, 1, 3));
        });
        quiet("a place that isn't", x -> {
            noSuch("way 0", i -> x.way(0, i));
            CHECK.noSuch("way(0, 1)", () -> x.way(0, 1));
            CHECK.noSuch("way(2, 2)", () -> x.way(2, 2));
            CHECK.noSuch("way(3, 0) of one that doesn't stand", () -> x.way(3, 0));
            CHECK.noSuch("best(0, -1)", () -> x.best(0, -1));
            CHECK.noSuch("best(3, -1), without a way", () -> x.best(3, -1));
            CHECK.noSuch("best(0, MIN)", () -> x.best(0, Integer.MIN_VALUE));
            CHECK.noSuch("planned(0, -1)", () -> x.planned(0, -1));
            CHECK.noSuch("planned(3, -1), without a way", () -> x.planned(3, -1));
            CHECK.noSuch("planned(0, MIN)", () -> x.planned(0, Integer.MIN_VALUE));
            CHECK.noSuch("order(-1)", () -> x.order(-1));
            CHECK.noSuch("order(MIN)", () -> x.order(Integer.MIN_VALUE));
        });
        quiet("not within its bounds", x -> {
            for (int wrong : new int[] {-1, 8, Integer.MIN_VALUE, Integer.MAX_VALUE}) {
                CHECK.illegal("pool at " + wrong, () -> x.pool(0, wrong));
                CHECK.illegal("widest at " + wrong, () -> x.widest(0, 1, wrong));
                CHECK.illegal("flow at " + wrong, () -> x.flow(0, 1, wrong));
            }
            for (int wrong : new int[] {-1, 11, Integer.MIN_VALUE, Integer.MAX_VALUE}) {
                CHECK.illegal("luck by " + wrong, () -> x.luck(0, wrong));
            }
            for (int wrong : new int[] {-1, 61, Integer.MIN_VALUE, Integer.MAX_VALUE}) {
                CHECK.illegal(wrong + " years", () -> x.years(1, wrong, 0));
            }
        });
        quiet("both nodes are one", x -> {
            CHECK.illegal("widest(2, 2, 0)", () -> x.widest(2, 2, 0));
            CHECK.illegal("widest(2, 2, 8)", () -> x.widest(2, 2, 8));
            CHECK.illegal("flow(2, 2, 0)", () -> x.flow(2, 2, 0));
            CHECK.illegal("flow(2, 2, 8)", () -> x.flow(2, 2, 8));
            CHECK.illegal("cuts(2, 2)", () -> x.cuts(2, 2));
            CHECK.same("distance(2, 2)", x.distance(2, 2), 0);
        });
    }

    /** NoSuchElementException comes ahead wherever both would be due. */
    private static void whichComesAhead() {
        quiet("which of two comes ahead", x -> {
            CHECK.noSuch("pool(4, 8)", () -> x.pool(4, 8));
            CHECK.noSuch("pool(-1, -1)", () -> x.pool(-1, -1));
            CHECK.noSuch("widest(3, 3, 8)", () -> x.widest(3, 3, 8));
            CHECK.noSuch("widest(0, 3, -1)", () -> x.widest(0, 3, -1));
            CHECK.noSuch("widest(-1, -1, 0)", () -> x.widest(-1, -1, 0));
            CHECK.noSuch("flow(3, 3, 8)", () -> x.flow(3, 3, 8));
            CHECK.noSuch("flow(0, 3, -1)", () -> x.flow(0, 3, -1));
            CHECK.noSuch("flow(-1, -1, 0)", () -> x.flow(-1, -1, 0));
            CHECK.noSuch("cuts(3, 3)", () -> x.cuts(3, 3));
            CHECK.noSuch("cuts(-1, -1)", () -> x.cuts(-1, -1));
            CHECK.noSuch("distance(3, 3)", () -> x.distance(3, 3));
            CHECK.noSuch("luck(4, 11)", () -> x.luck(4, 11));
            CHECK.noSuch("luck(-1, -1)", () -> x.luck(-1, -1));
            CHECK.noSuch("years(1, 61, 3)", () -> x.years(1, 61, 3));
            CHECK.noSuch("years(1, -1, -1)", () -> x.years(1, -1, -1));
            CHECK.noSuch("see(3, 3, 0, 8)", () -> x.see(3, 3, 0, 8, true));
            CHECK.noSuch("see(-1, -1, 100, -1)", () -> x.see(-1, -1, 100, -1, true));
            CHECK.noSuch("resize(4, 0)", () -> x.resize(4, 0));
        });
    }

    private static void onlyAsked() {
        quiet("asked of the state", x -> {
            for (int what = 0; what <= 16; what++) {
                x.count(what);
            }
            for (int link = 0; link < 4; link++) {
                x.link(link, 7);
                x.pool(link, 7);
                x.saved(link);
            }
            x.fault();
        });
        quiet("asked of tunnels", x -> {
            for (int tunnel = 0; tunnel < 4; tunnel++) {
                x.tunnel(tunnel, 10);
                x.best(tunnel, 0);
                x.pushes(tunnel, 0);
                x.pushes(tunnel, 1);
                x.planned(tunnel, 0);
                x.apart(tunnel);
                x.room(tunnel);
                x.luck(tunnel, 3);
            }
            x.order(0);
            x.toBreak();
        });
        quiet("asked of nodes, sights and years", x -> {
            x.widest(0, 2, 7);
            x.cuts(0, 2);
            x.flow(0, 2, 7);
            x.distance(0, 2);
            for (int what = 0; what <= 2; what++) {
                x.other(what);
                x.years(4711, 60, what);
            }
        });
    }

    public static void main(String[] args) {
        lives();
        acts();
        withoutAny();
        sights();
        texts();
        tape();
        thrownForWhatThereIsnt();
        thrownForWhatIsAsked();
        whichComesAhead();
        onlyAsked();
        CHECK.end();
    }
}
