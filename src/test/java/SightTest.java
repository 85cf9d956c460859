/** Promises 29 to 31: see, forget, other. */
public final class SightTest {
    private static final Check CHECK = new Check();

    private SightTest() {
    }

    private static void seeing() {
        TunnelPlan x = Tape.plan("link 0 1 1 5;");
        CHECK.noSuch("see(2, 2, 0, 9), no such node first", () -> x.see(2, 2, 0, 9, true));
        CHECK.noSuch("see(-1, 0)", () -> x.see(-1, 0, 1, 1, true));
        CHECK.noSuch("see(0, 2)", () -> x.see(0, 2, 1, 1, true));
        CHECK.same("that is not refused so", x.count(16), 0);
        CHECK.same("both are one", x.see(1, 1, 1, 1, true), -1);
        CHECK.same("bandwidth 0", x.see(0, 1, 0, 1, true), -1);
        CHECK.same("bandwidth 100", x.see(0, 1, 100, 1, true), -1);
        CHECK.same("setup -1", x.see(0, 1, 1, -1, true), -1);
        CHECK.same("setup 8", x.see(0, 1, 1, 8, true), -1);
        CHECK.same("refused", x.count(16), 5);
        for (int i = 1; i <= 8; i++) {
            CHECK.same("see " + i, x.see(0, 1, i <= 4 ? 1 : 99, i - 1, i <= 4), i);
        }
        CHECK.same("there are 8", x.see(0, 1, 1, 1, true), -1);
        CHECK.noSuch("no such node ahead of that", () -> x.see(0, 2, 1, 1, true));
        CHECK.same("refused once more", x.count(16), 6);
        CHECK.same("seen", x.count(12), 8);
        CHECK.same("so it is", x.other(2), 1);
        x.forget();
        CHECK.same("forgotten", x.count(12), 0);
        CHECK.same("status stays", x.count(16), 6);
        CHECK.same("anew", x.see(1, 0, 1, 0, true), 1);
        CHECK.same("so it isn't", x.other(2), 0);
        CHECK.row("nor would it be", x::other, 0, -1, 0);
        CHECK.noSuch("other(3)", () -> x.other(3));
        CHECK.noSuch("other(-1)", () -> x.other(-1));
    }

    private static void others() {
        TunnelPlan x = Tape.plan("nodes 3;link 0 1 1 5;link 1 2 1 9;link 0 2 1 4;tunnel 0 1 2 3 3;");
        // Nothing is seen: 1 to 20 but for what each has.
        CHECK.row("nothing seen", x::other, 57, 1, 1);
        x.setUp(0);
        CHECK.row("no less than is taken", x::other, 56, 2, 1);
        x.see(0, 2, 6, 7, true);
        // Link 0 needs 6 beside the 2 that are taken, link 2 needs 6.
        CHECK.row("one is too narrow", x::other, 13 + 15, 8, 0);
        x.see(0, 2, 6, 2, true);
        CHECK.row("at a stronger priority it takes less", x::other, 13 + 15, 8, 0);
        x.see(0, 1, 10, 0, false);
        CHECK.row("but not so wide", x::other, 2 + 15, 8, 0);
        x.fail(2);
        CHECK.row("a link that isn't up helps nobody", x::other, 2, 8, 0);
        x.forget();
        CHECK.row("nothing is against it", x::other, 56, 2, 1);
        x.see(0, 2, 1, 0, true);
        CHECK.row("any will do on a link that isn't up", x::other, 18 + 19 + 19, 2, 1);
    }

    private static void capacitiesAboveTwenty() {
        TunnelPlan x = Tape.plan("link 0 1 1 99;tunnel 0 1 20 1 1;tunnel 0 1 1 1 1;");
        x.setUp(0);
        CHECK.row("20 are taken", x::other, 1, 20, 1);
        x.setUp(1);
        CHECK.row("21 are taken", x::other, 0, -1, 1);
    }

    public static void main(String[] args) {
        seeing();
        others();
        capacitiesAboveTwenty();
        CHECK.end();
    }
}
