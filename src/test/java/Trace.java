import java.util.ArrayList;
import java.util.List;
import java.util.function.Consumer;
import java.util.function.Supplier;

/** All that an object tells, read off in a row: two that were used alike must tell the same. */
final class Trace {
    private final TunnelPlan x;
    private final List<String> told = new ArrayList<>();

    private Trace(TunnelPlan x) {
        this.x = x;
    }

    /** Two objects are made alike, the call is made on one; then nothing but the status (NONE: not even that) tells them apart. */
    static void staysBehind(Check check, String what, Supplier<TunnelPlan> made, Consumer<TunnelPlan> call, int status) {
        TunnelPlan used = made.get();
        TunnelPlan twin = made.get();
        call.accept(used);
        for (int i = 0; i < 3; i++) {
            check.same(what + ": status " + i, used.count(14 + i), twin.count(14 + i) + (i == status ? 1 : 0));
        }
        compare(check, what, new Trace(used).whole(true), new Trace(twin).whole(true));
    }

    /** As above for a text with a fault: the tape is empty behind it, and fault() tells another place. */
    static void staysBehindText(Check check, String what, Supplier<TunnelPlan> made, Consumer<TunnelPlan> call) {
        TunnelPlan used = made.get();
        TunnelPlan twin = made.get();
        call.accept(used);
        check.same(what + ": the tape is empty", used.count(13), 0);
        for (int i = 0; i < 3; i++) {
            check.same(what + ": status " + i, used.count(14 + i), twin.count(14 + i) + (i == 0 ? 1 : 0));
        }
        compare(check, what, new Trace(used).whole(false), new Trace(twin).whole(false));
    }

    private static void compare(Check check, String what, List<String> got, List<String> due) {
        check.same(what + ": how much is told", got.size(), due.size());
        for (int i = 0; i < got.size() && i < due.size(); i++) {
            if (!got.get(i).equals(due.get(i))) {
                check.same(what + ": " + got.get(i) + " for " + due.get(i), 1, 0);
                return;
            }
        }
    }

    /** The state, then each act undone, then the image and its acts, then what is on the tape; the object is used up. */
    private List<String> whole(boolean withTape) {
        now();
        asked();
        acts();
        boolean image = x.restore();
        told.add("image " + image);
        if (image) {
            now();
            acts();
        }
        if (withTape) {
            told.add("tape " + x.count(13) + ", fault " + x.fault());
            told.add("its text " + x.network(x.count(13)) + " at " + x.fault());
            now();
        }
        return told;
    }

    private void now() {
        for (int what = 0; what <= 12; what++) {
            told.add("count(" + what + ") = " + x.count(what));
        }
        for (int link = 0; link < x.count(1); link++) {
            for (int what = 0; what <= 7; what++) {
                told.add("link(" + link + ", " + what + ") = " + x.link(link, what));
            }
            told.add("pool of " + link + " at 3 is " + x.pool(link, 3));
        }
        for (int tunnel = 0; tunnel < x.count(2); tunnel++) {
            for (int what = 0; what <= 10; what++) {
                told.add("tunnel(" + tunnel + ", " + what + ") = " + x.tunnel(tunnel, what));
            }
            way(tunnel);
        }
    }

    private void way(int tunnel) {
        for (int i = 0; i < x.tunnel(tunnel, 8); i++) {
            told.add("way(" + tunnel + ", " + i + ") = " + x.way(tunnel, i));
        }
    }

    private void asked() {
        for (int tunnel = 0; tunnel < x.count(2); tunnel++) {
            told.add("best " + x.best(tunnel, 0) + ", planned " + x.planned(tunnel, 0) + ", room " + x.room(tunnel));
        }
        told.add("order " + x.order(0) + ", to break " + x.toBreak());
        told.add("other " + x.other(0) + ", " + x.other(1) + ", " + x.other(2));
    }

    private void acts() {
        for (int left = x.undo(); left >= 0; left = x.undo()) {
            told.add(left + " acts left: " + x.count(3) + " stand, up " + x.count(4) + ", taken " + x.count(5));
            for (int tunnel = 0; tunnel < x.count(2); tunnel++) {
                told.add("bandwidth " + x.tunnel(tunnel, 2));
                way(tunnel);
            }
        }
    }
}
