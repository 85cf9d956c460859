import java.util.Random;
import java.util.function.IntSupplier;

/** Random networks and calls, held against the Model. Arguments: how many runs, the first seed. */
public final class ModelTest {
    private static int wrong = 0;
    private static long compared = 0;
    private static StringBuilder log;

    private ModelTest() {
    }

    private static String answer(IntSupplier call) {
        try {
            return String.valueOf(call.getAsInt());
        } catch (RuntimeException e) {
            return e.getClass().getSimpleName();
        }
    }

    private static void same(String call, IntSupplier mine, IntSupplier model) {
        String got = answer(mine);
        String due = answer(model);
        compared++;
        log.append(call).append(" -> ").append(due).append('\n');
        if (!got.equals(due)) {
            wrong++;
            if (wrong <= 3) {
                System.out.println(log);
                System.out.println(call + " answered " + got + ", due is " + due);
            }
        }
    }

    private static int bool(boolean b) {
        return b ? 1 : 0;
    }

    static String randomText(Random r) {
        int shape = r.nextInt(3);
        int nodes = shape == 0 ? 2 + r.nextInt(7) : 3 + r.nextInt(r.nextInt(3) == 0 ? 6 : 3);
        int links = shape == 0 ? r.nextInt(17) : 10 + r.nextInt(7);
        int tunnels = shape == 0 ? r.nextInt(10) : 6 + r.nextInt(4);
        int metrics = r.nextInt(3) == 0 ? 99 : 1 + r.nextInt(3);
        int capacity = 2 + r.nextInt(30);
        int asked = Math.max(1, shape == 0 ? capacity : capacity / 2);
        StringBuilder b = new StringBuilder();
        if (nodes != 2 || r.nextBoolean()) {
            b.append("nodes ").append(nodes).append(";\n");
        }
        for (int i = 0; i < links; i++) {
            if (shape == 2) {
                // A ladder: from each node to the next one or the one behind it, so ways are long and many.
                int from = i % (nodes - 1);
                b.append("link ").append(from).append(' ').append(Math.min(nodes - 1, from + 1 + r.nextInt(2))).append(' ');
            } else {
                ends(b.append("link"), r, nodes);
            }
            b.append(1 + r.nextInt(metrics)).append(' ').append(1 + r.nextInt(capacity));
            if (r.nextInt(6) == 0) {
                b.append(' ').append(r.nextInt(16));
            }
            b.append(r.nextBoolean() ? ";" : " ;\n");
        }
        for (int i = 0; i < tunnels; i++) {
            int setup = r.nextInt(8);
            if (shape == 2 && r.nextBoolean()) {
                b.append("tunnel 0 ").append(nodes - 1).append(' ');
            } else {
                ends(b.append("tunnel"), r, nodes);
            }
            b.append(1 + r.nextInt(asked)).append(' ').append(setup).append(' ');
            b.append(r.nextBoolean() ? setup : r.nextInt(setup + 1));
            if (r.nextInt(4) == 0) {
                b.append(' ').append(r.nextBoolean() ? 0 : 1 << r.nextInt(4));
                if (r.nextBoolean()) {
                    b.append(' ').append(1 + r.nextInt(7));
                }
            }
            b.append(';');
        }
        return b.toString();
    }

    private static StringBuilder ends(StringBuilder b, Random r, int nodes) {
        int a = r.nextInt(nodes);
        int c = (a + 1 + r.nextInt(nodes - 1)) % nodes;
        if (r.nextInt(3) > 0) {
            // Rather from low nodes to high ones, so that long ways are found.
            int low = Math.min(a, c);
            c = Math.max(a, c);
            a = low;
        }
        return b.append(' ').append(a).append(' ').append(c).append(' ');
    }

    private static String spoil(Random r, String text) {
        String[] bits = {"nodes", "link", "tunnel", ";", "-1", "00001", "12345", "99999999999", "8", "7", "0", "16", "100", "x", "A", "\t", "", " 3 "};
        StringBuilder b = new StringBuilder(text);
        int at = r.nextInt(b.length() + 1);
        int cut = Math.min(b.length(), at + r.nextInt(4));
        b.replace(at, cut, bits[r.nextInt(bits.length)]);
        return b.toString();
    }

    private static void loadBoth(TunnelPlan x, Model m, Random r) {
        String text = randomText(r);
        if (r.nextInt(5) == 0) {
            text = spoil(r, text);
        }
        if (text.length() > 700) {
            text = text.substring(0, 700);
        }
        int[] n = Tape.numbers(text);
        for (int i = 0; i < n.length; i += 5) {
            int k = i;
            same("feed", () -> x.feed(n[k], n[k + 1], n[k + 2], n[k + 3], n[k + 4]), () -> m.feed(n[k], n[k + 1], n[k + 2], n[k + 3], n[k + 4]));
        }
        int length = text.length() - (r.nextInt(10) == 0 ? r.nextInt(3) : 0);
        log.append(text, 0, Math.max(0, length)).append('\n');
        same("network " + length, () -> x.network(length), () -> m.network(length));
        same("fault", x::fault, m::fault0);
    }

    private static int wild(Random r, int below) {
        int kind = r.nextInt(40);
        if (kind == 0) {
            return r.nextInt();
        }
        return kind == 1 ? -1 : r.nextInt(below + (kind == 2 ? 2 : 0));
    }

    private static void act(TunnelPlan x, Model m, Random r, int t, int l) {
        switch (r.nextInt(9)) {
            case 0, 1, 2, 3 -> same("setUp " + t, () -> x.setUp(t), () -> m.setUp(t));
            case 4 -> same("tearDown " + t, () -> bool(x.tearDown(t)), () -> bool(m.tearDown(t)));
            case 5 -> same("move " + t, () -> x.move(t), () -> m.move(t));
            case 6 -> {
                int b = wild(r, 30);
                same("resize " + t + " " + b, () -> x.resize(t, b), () -> m.resize(t, b));
            }
            case 7 -> same("fail " + l, () -> x.fail(l), () -> m.fail(l));
            default -> same("mend " + l, () -> bool(x.mend(l)), () -> bool(m.mend(l)));
        }
    }

    private static void keep(TunnelPlan x, Model m, Random r) {
        switch (r.nextInt(6)) {
            case 0, 1, 2 -> same("undo", x::undo, m::undo);
            case 3 -> {
                log.append("image\n");
                x.image();
                m.image();
            }
            case 4 -> same("restore", () -> bool(x.restore()), () -> bool(m.restore()));
            default -> {
                if (r.nextInt(4) == 0) {
                    log.append("forget\n");
                    x.forget();
                    m.forget();
                }
            }
        }
    }

    private static void ask(TunnelPlan x, Model m, Random r, int t, int l) {
        int i = wild(r, 4);
        int a = wild(r, m.nodes);
        int b = wild(r, m.nodes);
        int p = wild(r, 8);
        int what = wild(r, 2);
        int three = wild(r, 3);
        switch (r.nextInt(26)) {
            case 0 -> same("count " + p, () -> x.count(p), () -> m.count(p));
            case 1 -> same("count " + (p + 8), () -> x.count(p + 8), () -> m.count(p + 8));
            case 2 -> same("link " + l + " " + p, () -> x.link(l, p), () -> m.link(l, p));
            case 3 -> same("pool " + l + " " + p, () -> x.pool(l, p), () -> m.pool(l, p));
            case 4 -> same("tunnel " + t + " " + (p + i), () -> x.tunnel(t, p + i), () -> m.tunnel(t, p + i));
            case 5 -> same("way " + t + " " + i, () -> x.way(t, i), () -> m.way(t, i));
            case 6 -> same("best " + t + " " + i, () -> x.best(t, i), () -> m.best(t, i));
            case 7 -> same("pushes " + t + " " + what, () -> x.pushes(t, what), () -> m.pushes(t, what));
            case 8 -> same("planned " + t + " " + i, () -> x.planned(t, i), () -> m.planned(t, i));
            case 9, 10 -> same("order " + i, () -> x.order(i), () -> m.order(i));
            case 11, 12 -> same("toBreak", x::toBreak, m::toBreak);
            case 13 -> same("widest " + a + " " + b + " " + p, () -> x.widest(a, b, p), () -> m.widest(a, b, p));
            case 14 -> same("apart " + t, () -> x.apart(t), () -> m.apart(t));
            case 15 -> same("cuts " + a + " " + b, () -> x.cuts(a, b), () -> m.cuts(a, b));
            case 16 -> same("flow " + a + " " + b + " " + p, () -> x.flow(a, b, p), () -> m.flow(a, b, p));
            case 17 -> same("distance " + a + " " + b, () -> x.distance(a, b), () -> m.distance(a, b));
            case 18 -> same("room " + t, () -> x.room(t), () -> m.room(t));
            case 19 -> same("saved " + l, () -> x.saved(l), () -> m.saved(l));
            case 20 -> {
                int w = wild(r, 25);
                boolean is = r.nextInt(3) > 0 == m.widestOrZero(a, b, p) >= w;
                same("see " + a + " " + b + " " + w + " " + p + " " + is, () -> x.see(a, b, w, p, is), () -> m.see(a, b, w, p, is));
            }
            case 21 -> same("other " + three, () -> x.other(three), () -> m.other(three));
            case 22 -> {
                int tenths = wild(r, 11);
                same("luck " + t + " " + tenths, () -> x.luck(t, tenths), () -> m.luck(t, tenths));
            }
            case 23 -> {
                int seed = r.nextInt();
                int n = wild(r, 61);
                same("years " + seed + " " + n + " " + three, () -> x.years(seed, n, three), () -> m.years(seed, n, three));
            }
            case 24 -> same("fault", x::fault, m::fault0);
            default -> keep(x, m, r);
        }
    }

    private static void compareAll(TunnelPlan x, Model m) {
        for (int what = 0; what <= 17; what++) {
            int w = what;
            same("count " + w, () -> x.count(w), () -> m.count(w));
        }
        for (int t = 0; t < m.tunnels.size(); t++) {
            for (int i = 0; i < 8; i++) {
                int k = t;
                int j = i;
                same("way " + k + " " + j, () -> x.way(k, j), () -> m.way(k, j));
            }
        }
    }

    private static void run(long seed) {
        Random r = new Random(seed);
        log = new StringBuilder("seed " + seed + "\n");
        TunnelPlan x = new TunnelPlan();
        Model m = new Model();
        int before = wrong;
        for (int net = 0; net < 3 && wrong == before; net++) {
            if (net > 0 || r.nextInt(20) > 0) {
                loadBoth(x, m, r);
            }
            for (int call = 0; call < 60 && wrong == before; call++) {
                int t = wild(r, Math.max(1, m.tunnels.size()));
                int l = wild(r, Math.max(1, m.links.size()));
                if (r.nextInt(3) > 0) {
                    act(x, m, r, t, l);
                } else {
                    ask(x, m, r, t, l);
                }
            }
            compareAll(x, m);
        }
    }

    public static void main(String[] args) {
        int runs = args.length > 0 ? Integer.parseInt(args[0]) : 1500;
        long first = args.length > 1 ? Long.parseLong(args[1]) : 1;
        for (int i = 0; i < runs && wrong == 0; i++) {
            run(first + i);
        }
        System.out.println(compared + " answers compared, " + wrong + " wrong");
        if (wrong != 0) {
            System.exit(1);
        }
    }
}
