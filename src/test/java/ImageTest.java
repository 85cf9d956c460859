/** Promises 34 and 35: image, restore. */
public final class ImageTest {
    private static final Check CHECK = new Check();

    private ImageTest() {
    }

    private static void restoring() {
        TunnelPlan x = Tape.plan("link 0 1 1 5;link 0 1 2 5;tunnel 0 1 5 3 3;tunnel 0 1 5 6 6;");
        CHECK.no("there is none", x.restore());
        x.setUp(0);
        x.fail(0);
        x.see(0, 1, 5, 3, true);
        x.image();
        x.mend(0);
        x.move(0);
        x.setUp(1);
        x.resize(1, 3);
        x.see(0, 1, 6, 3, false);
        x.setUp(1);
        x.see(0, 0, 6, 3, false);
        CHECK.row("ahead of it", i -> x.count(i + 3), 3, 3);
        CHECK.yes("restored", x.restore());
        CHECK.row("as it was", i -> x.count(i + 3), 1, 2, 5);
        CHECK.same("its way", x.way(0, 0), 1);
        CHECK.same("bandwidth", x.tunnel(1, 2), 5);
        CHECK.row("acts and seen", i -> x.count(i + 11), 2, 1);
        CHECK.row("status is not in it", i -> x.count(i + 14), 0, 1, 1);
        CHECK.same("undo", x.undo(), 1);
        CHECK.same("its way ahead of the failing", x.way(0, 0), 0);
        CHECK.same("undo", x.undo(), 0);
        x.forget();
        CHECK.yes("restored again", x.restore());
        CHECK.row("as it was, again", i -> x.count(i + 3), 1, 2, 5);
        CHECK.row("acts and seen, again", i -> x.count(i + 11), 2, 1);
        CHECK.same("undo, again", x.undo(), 1);
        CHECK.same("undone is", x.link(0, 5), 1);
    }

    private static void whatCameSince() {
        TunnelPlan x = Tape.plan("link 0 1 1 5;tunnel 0 1 5 3 3;");
        x.resize(0, 2);
        x.resize(0, 3);
        x.see(0, 1, 6, 3, true);
        x.image();
        x.undo();
        x.undo();
        x.fail(0);
        x.resize(0, 4);
        x.setUp(0);
        x.forget();
        x.see(0, 1, 5, 3, true);
        CHECK.yes("restored", x.restore());
        CHECK.same("what was seen", x.other(1), 6);
        CHECK.same("bandwidth", x.tunnel(0, 2), 3);
        CHECK.same("undo", x.undo(), 1);
        CHECK.same("bandwidth ahead of it", x.tunnel(0, 2), 2);
        CHECK.same("undo", x.undo(), 0);
        CHECK.same("bandwidth at first", x.tunnel(0, 2), 5);
        CHECK.same("the link is up", x.count(4), 1);
    }

    private static void inPlaceOfAnother() {
        TunnelPlan x = Tape.plan("link 0 1 1 5;tunnel 0 1 5 3 3;");
        x.image();
        x.setUp(0);
        x.image();
        x.tearDown(0);
        CHECK.yes("restored", x.restore());
        CHECK.same("the later one", x.count(3), 1);
        CHECK.same("undo", x.undo(), 0);
        CHECK.same("not in it", x.count(3), 0);
        CHECK.yes("restored again", x.restore());
        CHECK.same("still the later one", x.count(3), 1);
        CHECK.same("its acts", x.count(11), 1);
    }

    private static void fortyActs() {
        TunnelPlan x = Tape.plan("link 0 1 1 99;tunnel 0 1 1 1 1;");
        for (int i = 2; i <= 50; i++) {
            x.resize(0, i);
        }
        x.image();
        for (int i = 51; i <= 60; i++) {
            x.resize(0, i);
        }
        x.restore();
        for (int i = 39; i >= 0; i--) {
            CHECK.same("acts left", x.undo(), i);
            CHECK.same("bandwidth", x.tunnel(0, 2), i + 10);
        }
    }

    private static void tapeIsNotInIt() {
        TunnelPlan x = new TunnelPlan();
        x.image();
        x.feed(0, 0, 0, 0, 0);
        CHECK.yes("restored", x.restore());
        CHECK.same("the tape is as it is", x.count(13), 20);
        CHECK.same("a fault", x.network(20), 1);
        CHECK.yes("the image stays", x.restore());
        CHECK.same("the fault stays", x.fault(), 0);
        CHECK.same("a network", x.network(0), 0);
        CHECK.no("the image is gone", x.restore());
    }

    public static void main(String[] args) {
        restoring();
        whatCameSince();
        inPlaceOfAnother();
        fortyActs();
        tapeIsNotInIt();
        CHECK.end();
    }
}
