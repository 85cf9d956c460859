/** The edges of PLAN, ORDER and TO BREAK (promises 19 to 21). */
public final class EdgePlanTest {
    private static final Check CHECK = new Check();

    private EdgePlanTest() {
    }

    /** Sets up each on the only link that is up then; all links are up in the end. */
    private static TunnelPlan placed(String text, int... links) {
        TunnelPlan x = Tape.plan(text);
        int all = x.count(1);
        for (int tunnel = 0; tunnel < links.length; tunnel++) {
            if (links[tunnel] >= 0) {
                for (int link = 0; link < all; link++) {
                    if (link != links[tunnel] && x.link(link, 7) == 0 && x.link(link, 5) == 1) {
                        x.fail(link);
                    }
                }
                if (x.link(links[tunnel], 5) == 0) {
                    x.mend(links[tunnel]);
                }
                x.setUp(tunnel);
                CHECK.same("tunnel " + tunnel + " is on link", x.way(tunnel, 0), links[tunnel]);
            }
        }
        for (int link = 0; link < all; link++) {
            if (x.link(link, 5) == 0) {
                x.mend(link);
            }
        }
        return x;
    }

    /** NONE behind the last link, without a way, for any i from 0 on. */
    private static void places() {
        TunnelPlan x = Tape.plan("nodes 3;link 0 1 1 5;link 1 2 1 5;tunnel 0 2 1 1 1;tunnel 2 0 1 1 1;");
        CHECK.row("two links", i -> x.planned(0, i), 0, 1, -1, -1, -1, -1, -1, -1, -1);
        CHECK.row("none", i -> x.planned(1, i), -1, -1, -1);
        CHECK.same("the greatest int", x.planned(0, Integer.MAX_VALUE), -1);
        CHECK.noSuch("below 0", () -> x.planned(0, -1));
        CHECK.noSuch("below 0 without a way", () -> x.planned(1, -1));
        CHECK.row("none to be moved", x::order, -1, -1);
        CHECK.same("order at the greatest int", x.order(Integer.MAX_VALUE), -1);
        CHECK.noSuch("order below 0", () -> x.order(-1));
        CHECK.same("nothing to break", x.toBreak(), 0);
    }

    /** SETUP, then HOLD, then the least: who comes first takes link 0, which has the least metric. */
    private static void whoIsFirst() {
        String links = "link 0 1 1 5;link 0 1 2 5;";
        CHECK.row("SETUP", t -> Tape.plan(links + "tunnel 0 1 5 5 0;tunnel 0 1 5 4 4;").planned(t, 0), 1, 0);
        CHECK.row("of like SETUPS HOLD", t -> Tape.plan(links + "tunnel 0 1 5 5 5;tunnel 0 1 5 5 4;").planned(t, 0), 1, 0);
        CHECK.row("of like HOLDS the least", t -> Tape.plan(links + "tunnel 0 1 5 5 4;tunnel 0 1 5 5 4;").planned(t, 0), 0, 1);
        CHECK.row("0 and 7", t -> Tape.plan(links + "tunnel 0 1 5 7 7;tunnel 0 1 5 7 0;tunnel 0 1 5 0 0;").planned(t, 0), -1, 1, 0);
    }

    /** By POOLS at 7: none is pushed out, none takes what one with a weaker HOLD has. */
    private static void nonePushedOut() {
        TunnelPlan x = Tape.plan("link 0 1 1 5;tunnel 0 1 3 3 3;tunnel 0 1 3 7 7;tunnel 0 1 2 7 7;");
        CHECK.row("3 and 2 of 5", t -> x.planned(t, 0), 0, -1, 0);
        // 1 has the stronger SETUP with a weak HOLD, or a weak one with the strongest HOLD: either is behind 0.
        CHECK.row("SETUP alone", t -> Tape.plan("link 0 1 1 5;tunnel 0 1 3 1 1;tunnel 0 1 3 2 0;").planned(t, 0), 0, -1);
        CHECK.row("what holds 7 is counted, too", t -> Tape.plan("link 0 1 1 5;tunnel 0 1 3 7 7;tunnel 0 1 3 7 7;").planned(t, 0), 0, -1);
        CHECK.row("of like SETUPS the strongest HOLD stays", t -> Tape.plan("link 0 1 1 5;tunnel 0 1 3 3 3;tunnel 0 1 3 3 0;").planned(t, 0), -1, 0);
    }

    /** By the rules of the BEST WAY, by what is UP, by the BANDWIDTH that it has now, whoever stands. */
    private static void asItIsNow() {
        TunnelPlan x = Tape.plan("link 0 1 1 5;link 0 1 1 6;link 0 1 2 9;tunnel 0 1 3 3 3;tunnel 0 1 3 3 3;");
        CHECK.row("the widest of like ones", t -> x.planned(t, 0), 1, 0);
        x.setUp(1);
        CHECK.row("whoever stands", t -> x.planned(t, 0), 1, 0);
        CHECK.same("1 is there itself", x.way(1, 0), 1);
        x.fail(2);
        CHECK.row("link 2 is nothing to it", t -> x.planned(t, 0), 1, 0);
        x.fail(0);
        CHECK.row("both on link 1", t -> x.planned(t, 0), 1, 1);
        x.resize(0, 4);
        CHECK.row("4 and 3 of 6", t -> x.planned(t, 0), 1, -1);
        x.mend(2);
        CHECK.row("link 2 again", t -> x.planned(t, 0), 1, 2);
        x.resize(0, 7);
        CHECK.row("7 has link 2 alone", t -> x.planned(t, 0), 2, 1);
        x.resize(0, 10);
        CHECK.row("10 has none", t -> x.planned(t, 0), -1, 1);
    }

    /** Each by what is planned ahead of it: what comes behind changes no way, though another one would be wider then. */
    private static void whatComesBehind() {
        TunnelPlan x = Tape.plan("link 0 1 1 5;link 0 1 1 5 1;tunnel 0 1 1 1 1;tunnel 0 1 1 2 2 1;tunnel 0 1 1 3 3 1;");
        CHECK.row("the first stays", t -> x.planned(t, 0), 0, 0, 0);
        x.setUp(1);
        x.setUp(2);
        CHECK.same("now link 1 is wider for it", x.best(0, 0), 1);
        CHECK.row("whoever stands", t -> x.planned(t, 0), 0, 0, 0);
    }

    /** If none stood: none of those that stand is in the way of whoever is planned ahead of it. */
    private static void ifNoneStood() {
        for (int many = 1; many <= 8; many++) {
            StringBuilder b = new StringBuilder("link 0 1 1 8;link 0 1 2 8;");
            int[] links = new int[many + 1];
            for (int t = 0; t < many; t++) {
                b.append("tunnel 0 1 1 7 0;");
            }
            // The last one asks for all of a link, and is planned first.
            b.append("tunnel 0 1 8 6 0;");
            links[many] = 1;
            TunnelPlan x = placed(b.toString(), links);
            int last = many;
            CHECK.row("planned with " + many, t -> x.planned(t == 0 ? last : t - 1, 0), 0, 1);
        }
        for (int first = 0; first <= 8; first++) {
            // One asks for all of a link, and is planned first; who has some of it would be in its way.
            StringBuilder b = new StringBuilder("link 0 1 1 8;link 0 1 2 8;");
            int[] links = new int[9];
            for (int t = 0; t <= 8; t++) {
                b.append(t == first ? "tunnel 0 1 8 6 0;" : "tunnel 0 1 1 7 0;");
                links[t] = t == first ? 1 : 0;
            }
            TunnelPlan x = placed(b.toString(), links);
            int it = first;
            CHECK.row("planned, first " + first, t -> x.planned(t, 0), java.util.stream.IntStream.range(0, 9).map(t -> t == it ? 0 : 1).toArray());
            CHECK.row("none can be moved", x::order, -1);
            CHECK.same("the one alone", x.toBreak(), 1 << first);
        }
    }

    /** The first call on it, whatever was asked ahead. */
    private static void askedAtOnce() {
        String ring = "link 0 1 1 5;link 0 1 2 5;tunnel 0 1 5 1 1;tunnel 0 1 5 2 1;";
        CHECK.same("planned", placed(ring, 1, 0).planned(1, 0), 1);
        CHECK.same("order", placed(ring, 1).order(0), 0);
        CHECK.same("to break", placed(ring, 1, 0).toBreak(), 1);
        TunnelPlan x = placed(ring, 1, 0);
        CHECK.same("to break", x.toBreak(), 1);
        x.tearDown(1);
        CHECK.same("nothing to break then", x.toBreak(), 0);
        CHECK.row("the order then", x::order, 0, -1);
    }

    /** Who stands, has a way by the plan, and another one: no one else is to be moved. */
    private static void whoIsToBeMoved() {
        String text = "link 0 1 1 5;link 0 1 2 5;link 0 1 3 5;tunnel 0 1 5 1 1;";
        CHECK.row("it doesn't stand", placed(text, -1)::order, -1);
        CHECK.row("it has it", placed(text, 0)::order, -1);
        CHECK.row("it has another one", placed(text, 1)::order, 0, -1, -1);
        // 1 has none by the plan: 0 is planned where both would be.
        TunnelPlan x = placed("link 0 1 1 5;link 0 1 2 2;tunnel 0 1 4 1 1;tunnel 0 1 2 2 2;", -1, 0);
        CHECK.row("1 is planned on link 1", t -> x.planned(t, 0), 0, 1);
        CHECK.row("1 is to be moved", x::order, 1, -1);
        x.resize(1, 3);
        CHECK.row("1 is planned nowhere", t -> x.planned(t, 0), 0, -1);
        CHECK.row("none is to be moved", x::order, -1);
        CHECK.same("nothing to break", x.toBreak(), 0);
    }

    /** As much taken as CAPACITY is allowed while both ways are taken, one more isn't. */
    private static void whileItTakesBothWays() {
        for (int other = 1; other <= 3; other++) {
            // 1 has 'other' of the 5 of link 0 and is planned on link 1, where 0 has 3 of 5.
            TunnelPlan x = placed("link 0 1 1 5;link 0 1 2 5;tunnel 0 1 3 1 1;tunnel 0 1 " + other + " 2 2;", 1, 0);
            CHECK.same("0 is planned on link 0", x.planned(0, 0), 0);
            CHECK.same("1 is planned on", x.planned(1, 0), other <= 2 ? 0 : 1);
            CHECK.row("with " + other, x::order, other <= 2 ? 0 : -1, -1);
            CHECK.same("to break with " + other, x.toBreak(), other <= 2 ? 0 : 1);
        }
    }

    /** The first row by numbers in which all can be moved, even where one that is later could go first. */
    private static void theFirstRow() {
        TunnelPlan any = placed("link 0 1 1 9;link 0 1 2 9;tunnel 0 1 2 3 3;tunnel 0 1 2 2 2;tunnel 0 1 2 1 1;", 1, 1, 1);
        CHECK.row("any row would do", any::order, 0, 1, 2, -1);
        // 0 is to go to link 1, where 2 is, 2 to link 0, and 1 to link 0 as well, which it needn't wait for.
        TunnelPlan x = placed("link 0 1 1 4;link 0 1 2 4;link 0 1 3 9;tunnel 0 1 4 3 3;tunnel 0 1 2 2 2;tunnel 0 1 2 1 1;", 2, 2, 1);
        CHECK.row("where they shall be", t -> x.planned(t, 0), 1, 0, 0);
        CHECK.row("0 must wait for 2, 1 needn't", x::order, 1, 2, 0, -1);
        // 0 and 2 are to go to link 0, where 1 is.
        TunnelPlan y = placed("nodes 3;link 0 1 1 4;link 0 1 2 4;link 0 1 3 9;tunnel 0 1 2 3 3;tunnel 0 1 4 2 2;tunnel 0 1 2 2 0;", 2, 0, 2);
        CHECK.row("where they shall be", t -> y.planned(t, 0), 0, 1, 0);
        CHECK.row("1 is first", y::order, 1, 0, 2, -1);
    }

    /** Where the first one that may go leaves the others stuck, another one goes first. */
    private static void theFirstThatLeavesNoneStuck() {
        // 0 may go to link 0 at once, beside 2. Then there is no room for 1, and 2 can't go to where 1 is.
        // But 1 beside 2, then 2 to link 1, then 0.
        TunnelPlan x = placed("link 0 1 1 4;link 0 1 2 3;link 0 1 3 9;tunnel 0 1 2 2 2;tunnel 0 1 2 1 1;tunnel 0 1 2 3 2;", 2, 1, 0);
        CHECK.row("where they shall be", t -> x.planned(t, 0), 0, 0, 1);
        CHECK.row("1 first, though 0 could go", x::order, 1, 2, 0, -1);
        CHECK.same("nothing to break", x.toBreak(), 0);
        // With 1 less of link 0 neither 0 nor 1 may go beside 2: 2 must be broken, or all others.
        TunnelPlan y = placed("link 0 1 1 4;link 0 1 2 3;link 0 1 3 9;tunnel 0 1 2 2 2;tunnel 0 1 2 1 1;tunnel 0 1 3 3 2;", 2, 1, 0);
        CHECK.row("where they shall be", t -> y.planned(t, 0), 0, 0, 1);
        CHECK.row("none", y::order, -1);
        CHECK.same("2 alone, or 1 alone: the least as bits", y.toBreak(), 2);
    }

    /** What the first one gave up, when it was tried, is taken again, when another one is tried ahead of it. */
    private static void triedInVain() {
        // 0 (on link 2) and 1 (on link 1) go to link 0, 3 (on link 0) to link 1, and 2 (on link 3) to link 2,
        // which is too narrow for it beside 0.
        TunnelPlan x = placed("link 0 1 1 4;link 0 1 2 3;link 0 1 3 3;link 0 1 4 9;"
                + "tunnel 0 1 2 2 2;tunnel 0 1 2 1 1;tunnel 0 1 2 4 3;tunnel 0 1 2 3 3;", 2, 1, 3, 0);
        CHECK.row("where they shall be", t -> x.planned(t, 0), 0, 0, 2, 1);
        CHECK.row("2 must wait for 0", x::order, 1, 3, 0, 2, -1);
    }

    private static void theFewestToBreak() {
        // Two rings of two: one of each, the least as bits.
        TunnelPlan x = placed("nodes 4;link 0 1 1 5;link 0 1 2 5;link 2 3 1 5;link 2 3 2 5;"
                + "tunnel 0 1 5 1 1;tunnel 2 3 5 1 1;tunnel 0 1 5 2 1;tunnel 2 3 5 2 1;", 1, 3, 0, 2);
        CHECK.row("where they shall be", t -> x.planned(t, 0), 0, 2, 1, 3);
        CHECK.row("none", x::order, -1);
        CHECK.same("the least as bits of each ring", x.toBreak(), 3);
        // 1 alone frees both 0 and 2, who can't free each other: one is fewer than two, though 0 is less as bits.
        TunnelPlan y = placed("link 0 1 1 4;link 0 1 2 4;tunnel 0 1 2 1 1;tunnel 0 1 4 5 1;tunnel 0 1 2 2 1;", 1, 0, 1);
        CHECK.row("where they shall be", t -> y.planned(t, 0), 0, 1, 0);
        CHECK.row("none", y::order, -1);
        CHECK.same("the fewest", y.toBreak(), 2);
        CHECK.same("nothing changed", y.count(3), 7);
    }

    /** None, where the links would have too much in the end: those that aren't moved stay as they are. */
    private static void tooMuchInTheEnd() {
        // 1 stands where 0 is planned, and has no way by the plan.
        for (int asked = 1; asked <= 3; asked++) {
            TunnelPlan x = placed("nodes 3;link 0 1 1 5;link 0 1 2 5;link 1 2 1 9 1;tunnel 0 1 3 1 1;tunnel 0 1 " + asked + " 5 1;tunnel 0 1 3 2 2;", 1, 0);
            boolean fits = asked <= 2;
            CHECK.row("by " + asked, t -> x.planned(t, 0), 0, fits ? 0 : -1, 1);
            CHECK.row("order by " + asked, x::order, fits ? 0 : -1, -1);
            CHECK.same("to break by " + asked, x.toBreak(), fits ? 0 : -1);
        }
    }

    /** The same, whichever number has the one that stays. */
    private static void whoeverStays() {
        for (int stays = 0; stays <= 1; stays++) {
            String goes = "tunnel 0 1 3 1 1;";
            String rests = "tunnel 0 1 3 5 1;";
            TunnelPlan x = placed("link 0 1 1 5;link 0 1 2 5;" + (stays == 0 ? rests + goes : goes + rests) + "tunnel 0 1 3 2 2;", stays, 1 - stays);
            CHECK.row("where they shall be", t -> x.planned(t, 0), stays == 0 ? -1 : 0, stays == 0 ? 0 : -1, 1);
            CHECK.row("order", x::order, -1);
            CHECK.same("to break", x.toBreak(), -1);
        }
    }

    /** All nine are moved. */
    private static void nine() {
        StringBuilder b = new StringBuilder("link 0 1 1 99;link 0 1 2 99;");
        for (int i = 0; i < 9; i++) {
            b.append("tunnel 0 1 11 ").append(7 - i % 8).append(" 0;");
        }
        TunnelPlan x = placed(b.toString(), 1, 1, 1, 1, 1, 1, 1, 1, 1);
        CHECK.row("by numbers", x::order, 0, 1, 2, 3, 4, 5, 6, 7, 8, -1);
        CHECK.same("nothing to break", x.toBreak(), 0);
    }

    public static void main(String[] args) {
        places();
        whoIsFirst();
        nonePushedOut();
        asItIsNow();
        whatComesBehind();
        ifNoneStood();
        askedAtOnce();
        whoIsToBeMoved();
        whileItTakesBothWays();
        theFirstRow();
        theFirstThatLeavesNoneStuck();
        triedInVain();
        theFewestToBreak();
        tooMuchInTheEnd();
        whoeverStays();
        nine();
        CHECK.end();
    }
}
