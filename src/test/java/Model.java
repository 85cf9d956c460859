import java.nio.charset.StandardCharsets;
import java.util.ArrayDeque;
import java.util.ArrayList;
import java.util.Arrays;
import java.util.Comparator;
import java.util.Deque;
import java.util.HashSet;
import java.util.List;
import java.util.NoSuchElementException;
import java.util.Set;
import java.util.regex.Matcher;
import java.util.regex.Pattern;

/** The document in its plainest form, by trying everything out: what ModelTest holds the class against. */
final class Model {
    record Link(int a, int b, int metric, int capacity, int colours) { }

    record Tunnel(int a, int b, int bandwidth, int setup, int hold, int shuns, int hops) { }

    record Seen(int a, int b, int bandwidth, int setup, boolean is) { }

    record Fault(int code, int place) { }

    static final class State {
        List<List<Integer>> ways = new ArrayList<>();
        List<Integer> bandwidth = new ArrayList<>();
        List<Boolean> up = new ArrayList<>();

        State copy() {
            State c = new State();
            c.ways.addAll(ways);
            c.bandwidth.addAll(bandwidth);
            c.up.addAll(up);
            return c;
        }

        boolean stands(int t) {
            return ways.get(t) != null;
        }
    }

    static final class Refusal extends Exception {
        private static final long serialVersionUID = 1;
        final transient Fault fault;

        Refusal(int code, int place) {
            super("fault");
            fault = new Fault(code, place);
        }
    }

    byte[] tape = new byte[0];
    int faultPlace = -1;
    int[] status = new int[3];
    int nodes = 2;
    List<Link> links = new ArrayList<>();
    List<Tunnel> tunnels = new ArrayList<>();
    State s = new State();
    Deque<State> acts = new ArrayDeque<>();
    List<Seen> seen = new ArrayList<>();
    State imageState;
    List<State> imageActs;
    List<Seen> imageSeen;

    // ---- the text

    int feed(int... numbers) {
        if (tape.length + 20 > 700) {
            return -1;
        }
        int at = tape.length;
        tape = Arrays.copyOf(tape, at + 20);
        java.nio.ByteBuffer buffer = java.nio.ByteBuffer.wrap(tape, at, 20);
        for (int n : numbers) {
            buffer.putInt(n);
        }
        return tape.length;
    }

    private static final Pattern TOKEN = Pattern.compile("[a-z]+|[0-9]+|[^ \n]", Pattern.DOTALL);
    private List<String> tokens;
    private List<Integer> places;
    private int at;
    private int draftNodes;

    int network(int n) {
        if (n < 0 || n > tape.length) {
            throw new IllegalArgumentException();
        }
        String text = new String(tape, 0, n, StandardCharsets.ISO_8859_1);
        tape = new byte[0];
        tokens = new ArrayList<>();
        places = new ArrayList<>();
        Matcher m = TOKEN.matcher(text);
        while (m.find()) {
            tokens.add(m.group());
            places.add(m.start());
        }
        tokens.add("");
        places.add(n);
        at = 0;
        List<Link> newLinks = new ArrayList<>();
        List<Tunnel> newTunnels = new ArrayList<>();
        try {
            parse(newLinks, newTunnels);
        } catch (Refusal r) {
            status[0]++;
            faultPlace = r.fault.place();
            return r.fault.code();
        }
        faultPlace = -1;
        nodes = draftNodes;
        links = newLinks;
        tunnels = newTunnels;
        s = new State();
        for (Tunnel t : tunnels) {
            s.ways.add(null);
            s.bandwidth.add(t.bandwidth());
        }
        for (int i = 0; i < links.size(); i++) {
            s.up.add(true);
        }
        acts.clear();
        seen.clear();
        imageState = null;
        return 0;
    }

    int fault0() {
        return faultPlace;
    }

    private String token() {
        return tokens.get(at);
    }

    private boolean isNumber() {
        return token().matches("[0-9]+");
    }

    private void refuse(int code) throws Refusal {
        throw new Refusal(code, places.get(at));
    }

    private int number(int least, int most) throws Refusal {
        if (!isNumber()) {
            refuse(1);
        }
        if (token().length() > 4) {
            refuse(2);
        }
        int v = Integer.parseInt(token());
        if (v < least || v > most) {
            refuse(2);
        }
        at++;
        return v;
    }

    private int node(int not) throws Refusal {
        if (!isNumber()) {
            refuse(1);
        }
        if (token().length() > 4) {
            refuse(2);
        }
        int v = Integer.parseInt(token());
        if (v >= draftNodes) {
            refuse(3);
        }
        if (v == not) {
            refuse(4);
        }
        at++;
        return v;
    }

    private void word(String w) throws Refusal {
        if (!token().equals(w)) {
            refuse(1);
        }
        at++;
    }

    private void parse(List<Link> ls, List<Tunnel> ts) throws Refusal {
        draftNodes = 2;
        if (token().equals("nodes")) {
            at++;
            draftNodes = number(2, 8);
            word(";");
        }
        while (!token().isEmpty()) {
            if (token().equals("link")) {
                if (ls.size() == 16) {
                    refuse(2);
                }
                at++;
                int a = node(-1);
                int b = node(a);
                int metric = number(1, 99);
                int capacity = number(1, 99);
                ls.add(new Link(a, b, metric, capacity, isNumber() ? number(0, 15) : 0));
            } else if (token().equals("tunnel")) {
                if (ts.size() == 9) {
                    refuse(2);
                }
                at++;
                int a = node(-1);
                int b = node(a);
                int bandwidth = number(1, 99);
                int setup = number(0, 7);
                int hold = number(0, 7);
                if (hold > setup) {
                    at--;
                    refuse(2);
                }
                int shuns = 0;
                int hops = 7;
                if (isNumber()) {
                    shuns = number(0, 15);
                    if (isNumber()) {
                        hops = number(1, 7);
                    }
                }
                ts.add(new Tunnel(a, b, bandwidth, setup, hold, shuns, hops));
            } else {
                refuse(1);
            }
            word(";");
        }
    }

    // ---- ways

    private void paths(State st, int from, int to, int shuns, int hops, List<Integer> so, Set<Integer> been, List<List<Integer>> out) {
        if (from == to) {
            out.add(new ArrayList<>(so));
            return;
        }
        if (so.size() == hops) {
            return;
        }
        for (int l = 0; l < links.size(); l++) {
            Link k = links.get(l);
            if (st.up.get(l) && k.a() == from && (k.colours() & shuns) == 0 && !been.contains(k.b())) {
                been.add(k.b());
                so.add(l);
                paths(st, k.b(), to, shuns, hops, so, been, out);
                so.remove(so.size() - 1);
                been.remove(k.b());
            }
        }
    }

    List<List<Integer>> all(State st, int from, int to, int shuns, int hops) {
        List<List<Integer>> out = new ArrayList<>();
        paths(st, from, to, shuns, hops, new ArrayList<>(), new HashSet<>(Set.of(from)), out);
        return out;
    }

    List<List<Integer>> allWays(State st, int t) {
        Tunnel k = tunnels.get(t);
        return all(st, k.a(), k.b(), k.shuns(), k.hops());
    }

    boolean on(State st, int t, int l) {
        return st.stands(t) && st.ways.get(t).contains(l);
    }

    int poolOf(State st, int l, int p) {
        int left = links.get(l).capacity();
        for (int t = 0; t < tunnels.size(); t++) {
            if (on(st, t, l) && tunnels.get(t).hold() <= p) {
                left -= st.bandwidth.get(t);
            }
        }
        return left;
    }

    int takenOf(State st, int l) {
        return links.get(l).capacity() - poolOf(st, l, 7);
    }

    int metric(List<Integer> way) {
        return way.stream().mapToInt(l -> links.get(l).metric()).sum();
    }

    List<Integer> bestBy(State st, int t, int bandwidth, int priority) {
        List<List<Integer>> ways = allWays(st, t);
        ways.removeIf(w -> w.stream().anyMatch(l -> poolOf(st, l, priority) + own(st, t, l) < bandwidth));
        Comparator<List<Integer>> c = Comparator.comparingInt(this::metric);
        c = c.thenComparingInt(List::size);
        c = c.thenComparingInt(w -> -w.stream().mapToInt(l -> poolOf(st, l, 7) + own(st, t, l)).min().getAsInt());
        c = c.thenComparing((x, y) -> {
            for (int i = 0; i < Math.min(x.size(), y.size()); i++) {
                if (!x.get(i).equals(y.get(i))) {
                    return x.get(i) - y.get(i);
                }
            }
            return 0;
        });
        return ways.stream().min(c).orElse(null);
    }

    int own(State st, int t, int l) {
        return on(st, t, l) ? st.bandwidth.get(t) : 0;
    }

    List<Integer> bestNow(State st, int t) {
        return bestBy(st, t, st.bandwidth.get(t), tunnels.get(t).setup());
    }

    // ---- setting up

    /** Whom a tunnel pushes out that has its new way. */
    int pushSet(State st, int t) {
        int best = -1;
        int[] bestKey = null;
        for (int set = 0; set < 1 << tunnels.size(); set++) {
            int harm = 0;
            int sum = 0;
            boolean may = true;
            State tried = st.copy();
            for (int u = 0; u < tunnels.size(); u++) {
                if ((set >> u & 1) == 1) {
                    may &= tunnels.get(u).hold() > tunnels.get(t).setup();
                    harm += 8 - tunnels.get(u).hold();
                    sum += st.bandwidth.get(u);
                    tried.ways.set(u, null);
                }
            }
            if (!may) {
                continue;
            }
            for (int l : st.ways.get(t)) {
                may &= takenOf(tried, l) <= links.get(l).capacity();
            }
            int[] key = {harm, Integer.bitCount(set), sum, set};
            if (may && (bestKey == null || Arrays.compare(key, bestKey) < 0)) {
                best = set;
                bestKey = key;
            }
        }
        return best;
    }

    int settle(State st, Set<Integer> waiting) {
        int pushed = 0;
        while (!waiting.isEmpty()) {
            int t = waiting.stream().min(Comparator.<Integer>comparingInt(x -> tunnels.get(x).setup()).thenComparingInt(x -> x)).get();
            waiting.remove(t);
            List<Integer> way = bestNow(st, t);
            if (way == null) {
                continue;
            }
            st.ways.set(t, way);
            int out = pushSet(st, t);
            for (int u = 0; u < tunnels.size(); u++) {
                if ((out >> u & 1) == 1) {
                    if (st.stands(u)) {
                        pushed++;
                    }
                    st.ways.set(u, null);
                    waiting.add(u);
                }
            }
        }
        return pushed;
    }

    int failing(State st, int l) {
        Set<Integer> waiting = new HashSet<>();
        for (int t = 0; t < tunnels.size(); t++) {
            if (on(st, t, l)) {
                waiting.add(t);
            }
        }
        for (int t : waiting) {
            st.ways.set(t, null);
        }
        st.up.set(l, false);
        return settle(st, waiting);
    }

    int standing(State st) {
        int bits = 0;
        for (int t = 0; t < tunnels.size(); t++) {
            bits |= st.stands(t) ? 1 << t : 0;
        }
        return bits;
    }

    // ---- what is asked

    int count(int what) {
        return switch (what) {
            case 0 -> nodes;
            case 1 -> links.size();
            case 2 -> tunnels.size();
            case 3 -> standing(s);
            case 4 -> upBits();
            case 5 -> takenAll(s);
            case 6 -> s.ways.stream().filter(w -> w != null).mapToInt(this::metric).sum();
            case 7 -> load()[0];
            case 8 -> load()[1];
            case 9 -> worst()[0];
            case 10 -> worst()[1];
            case 11 -> acts.size();
            case 12 -> seen.size();
            case 13 -> tape.length;
            case 14, 15, 16 -> status[what - 14];
            default -> throw new NoSuchElementException();
        };
    }

    int upBits() {
        int bits = 0;
        for (int l = 0; l < links.size(); l++) {
            bits |= s.up.get(l) ? 1 << l : 0;
        }
        return bits;
    }

    int takenAll(State st) {
        int sum = 0;
        for (int l = 0; l < links.size(); l++) {
            sum += takenOf(st, l);
        }
        return sum;
    }

    int[] load() {
        int[] best = {-1, 0};
        for (int l = 0; l < links.size(); l++) {
            if (s.up.get(l)) {
                int percent = takenOf(s, l) * 100 / links.get(l).capacity();
                if (best[0] < 0 || percent > best[1]) {
                    best = new int[] {l, percent};
                }
            }
        }
        return best;
    }

    int[] worst() {
        int[] best = {-1, 0};
        for (int l = 0; l < links.size(); l++) {
            if (s.up.get(l)) {
                State tried = s.copy();
                failing(tried, l);
                int lost = Integer.bitCount(standing(s) & ~standing(tried));
                if (lost > best[1]) {
                    best = new int[] {l, lost};
                }
            }
        }
        return best;
    }

    void needLink(int l) {
        if (l < 0 || l >= links.size()) {
            throw new NoSuchElementException();
        }
    }

    void needTunnel(int t) {
        if (t < 0 || t >= tunnels.size()) {
            throw new NoSuchElementException();
        }
    }

    void needNode(int n) {
        if (n < 0 || n >= nodes) {
            throw new NoSuchElementException();
        }
    }

    void need(boolean b) {
        if (!b) {
            throw new NoSuchElementException();
        }
    }

    void want(boolean b) {
        if (!b) {
            throw new IllegalArgumentException();
        }
    }

    int link(int l, int what) {
        needLink(l);
        Link k = links.get(l);
        int bits = 0;
        for (int t = 0; t < tunnels.size(); t++) {
            bits |= on(s, t, l) ? 1 << t : 0;
        }
        return switch (what) {
            case 0 -> k.a();
            case 1 -> k.b();
            case 2 -> k.metric();
            case 3 -> k.capacity();
            case 4 -> k.colours();
            case 5 -> s.up.get(l) ? 1 : 0;
            case 6 -> takenOf(s, l);
            case 7 -> bits;
            default -> throw new NoSuchElementException();
        };
    }

    int pool(int l, int p) {
        needLink(l);
        want(p >= 0 && p <= 7);
        return poolOf(s, l, p);
    }

    int tunnel(int t, int what) {
        needTunnel(t);
        Tunnel k = tunnels.get(t);
        List<Integer> way = s.ways.get(t);
        return switch (what) {
            case 0 -> k.a();
            case 1 -> k.b();
            case 2 -> s.bandwidth.get(t);
            case 3 -> k.setup();
            case 4 -> k.hold();
            case 5 -> k.shuns();
            case 6 -> k.hops();
            case 7 -> way == null ? 0 : 1;
            case 8 -> way == null ? -1 : way.size();
            case 9 -> way == null ? -1 : metric(way);
            case 10 -> way == null ? -1 : metric(way) - allWays(s, t).stream().mapToInt(this::metric).min().getAsInt();
            default -> throw new NoSuchElementException();
        };
    }

    int way(int t, int i) {
        needTunnel(t);
        need(i >= 0 && s.stands(t) && i < s.ways.get(t).size());
        return s.ways.get(t).get(i);
    }

    static int of(List<Integer> way, int i) {
        return way == null || i >= way.size() ? -1 : way.get(i);
    }

    int best(int t, int i) {
        needTunnel(t);
        need(i >= 0);
        return of(bestNow(s, t), i);
    }

    int pushes(int t, int what) {
        needTunnel(t);
        need(what == 0 || what == 1);
        List<Integer> way = bestNow(s, t);
        if (way == null) {
            return -1;
        }
        State tried = s.copy();
        tried.ways.set(t, way);
        if (what == 0) {
            return pushSet(tried, t);
        }
        tried = s.copy();
        settle(tried, new HashSet<>(Set.of(t)));
        int without = ~(1 << t);
        return Integer.bitCount(standing(s) & without) - Integer.bitCount(standing(tried) & without);
    }

    private void keep() {
        acts.addLast(s.copy());
        if (acts.size() > 40) {
            acts.removeFirst();
        }
    }

    private int refused() {
        status[1]++;
        return -1;
    }

    int setUp(int t) {
        needTunnel(t);
        if (s.stands(t) || bestNow(s, t) == null) {
            return refused();
        }
        keep();
        return settle(s, new HashSet<>(Set.of(t)));
    }

    boolean tearDown(int t) {
        needTunnel(t);
        if (!s.stands(t)) {
            refused();
            return false;
        }
        keep();
        s.ways.set(t, null);
        return true;
    }

    int move(int t) {
        needTunnel(t);
        if (!s.stands(t) || s.ways.get(t).equals(bestNow(s, t))) {
            return refused();
        }
        keep();
        return settle(s, new HashSet<>(Set.of(t)));
    }

    int resize(int t, int bandwidth) {
        needTunnel(t);
        int was = s.bandwidth.get(t);
        if (bandwidth < 1 || bandwidth > 99 || bandwidth == was) {
            return refused();
        }
        State tried = s.copy();
        tried.bandwidth.set(t, bandwidth);
        if (s.stands(t)) {
            if (bestNow(tried, t) == null) {
                return refused();
            }
            settle(tried, new HashSet<>(Set.of(t)));
        }
        keep();
        s = tried;
        return was;
    }

    int fail(int l) {
        needLink(l);
        if (!s.up.get(l)) {
            return refused();
        }
        keep();
        int stood = standing(s);
        failing(s, l);
        return Integer.bitCount(stood & ~standing(s));
    }

    boolean mend(int l) {
        needLink(l);
        if (s.up.get(l)) {
            refused();
            return false;
        }
        keep();
        s.up.set(l, true);
        return true;
    }

    int undo() {
        if (acts.isEmpty()) {
            return -1;
        }
        s = acts.removeLast();
        return acts.size();
    }

    // ---- the plan

    State plan() {
        State p = s.copy();
        List<Integer> row = new ArrayList<>();
        for (int t = 0; t < tunnels.size(); t++) {
            p.ways.set(t, null);
            row.add(t);
        }
        row.sort(Comparator.<Integer>comparingInt(t -> tunnels.get(t).setup()).thenComparingInt(t -> tunnels.get(t).hold()).thenComparingInt(t -> t));
        for (int t : row) {
            p.ways.set(t, bestBy(p, t, p.bandwidth.get(t), 7));
        }
        return p;
    }

    int planned(int t, int i) {
        needTunnel(t);
        need(i >= 0);
        return of(plan().ways.get(t), i);
    }

    List<Integer> toMove(State p) {
        List<Integer> m = new ArrayList<>();
        for (int t = 0; t < tunnels.size(); t++) {
            if (s.stands(t) && p.ways.get(t) != null && !p.ways.get(t).equals(s.ways.get(t))) {
                m.add(t);
            }
        }
        return m;
    }

    boolean overbooked(State st) {
        for (int l = 0; l < links.size(); l++) {
            if (takenOf(st, l) > links.get(l).capacity()) {
                return true;
            }
        }
        return false;
    }

    List<Integer> rowFor(State st, State p, List<Integer> left) {
        if (left.isEmpty()) {
            return new ArrayList<>();
        }
        for (int t : left) {
            State both = st.copy();
            Set<Integer> union = new HashSet<>(st.ways.get(t));
            union.addAll(p.ways.get(t));
            both.ways.set(t, new ArrayList<>(union));
            if (overbooked(both)) {
                continue;
            }
            State next = st.copy();
            next.ways.set(t, p.ways.get(t));
            List<Integer> rest = new ArrayList<>(left);
            rest.remove(Integer.valueOf(t));
            List<Integer> row = rowFor(next, p, rest);
            if (row != null) {
                row.add(0, t);
                return row;
            }
        }
        return null;
    }

    int order(int i) {
        need(i >= 0);
        State p = plan();
        return of(rowFor(s, p, toMove(p)), i);
    }

    int toBreak() {
        State p = plan();
        List<Integer> m = toMove(p);
        State end = s.copy();
        for (int t : m) {
            end.ways.set(t, p.ways.get(t));
        }
        if (overbooked(end)) {
            return -1;
        }
        int best = -1;
        for (int set = 0; set < 1 << tunnels.size(); set++) {
            boolean part = true;
            State st = s.copy();
            List<Integer> left = new ArrayList<>(m);
            for (int t = 0; t < tunnels.size(); t++) {
                if ((set >> t & 1) == 1) {
                    part &= m.contains(t);
                    left.remove(Integer.valueOf(t));
                    st.ways.set(t, null);
                }
            }
            boolean fewer = best < 0 || Integer.bitCount(set) < Integer.bitCount(best);
            if (part && fewer && rowFor(st, p, left) != null) {
                best = set;
            }
        }
        return best;
    }

    // ---- the graph

    boolean couldAsk(int a, int b, int bandwidth, int p) {
        return all(s, a, b, 0, 7).stream().anyMatch(w -> w.stream().allMatch(l -> poolOf(s, l, p) >= bandwidth));
    }

    int widest(int a, int b, int p) {
        needNode(a);
        needNode(b);
        want(a != b && p >= 0 && p <= 7);
        for (int bandwidth = 99; bandwidth > 0; bandwidth--) {
            if (couldAsk(a, b, bandwidth, p)) {
                return bandwidth;
            }
        }
        return 0;
    }

    /** For choosing what is seen: 0 where widest would refuse. */
    int widestOrZero(int a, int b, int p) {
        boolean fine = a >= 0 && a < nodes && b >= 0 && b < nodes && a != b && p >= 0 && p <= 7;
        return fine ? widest(a, b, p) : 0;
    }

    int apart(int t) {
        needTunnel(t);
        int best = -1;
        List<List<Integer>> ways = allWays(s, t);
        for (List<Integer> x : ways) {
            for (List<Integer> y : ways) {
                if (x.stream().noneMatch(y::contains)) {
                    int sum = metric(x) + metric(y);
                    best = best < 0 || sum < best ? sum : best;
                }
            }
        }
        return best;
    }

    int cuts(int a, int b) {
        needNode(a);
        needNode(b);
        want(a != b);
        List<List<Integer>> ways = all(s, a, b, 0, 7);
        int bits = 0;
        for (int l = 0; l < links.size() && !ways.isEmpty(); l++) {
            int link = l;
            if (ways.stream().allMatch(w -> w.contains(link))) {
                bits |= 1 << l;
            }
        }
        return bits;
    }

    /** The most that can be sent is the least that parts the two nodes. */
    int flow(int a, int b, int p) {
        needNode(a);
        needNode(b);
        want(a != b && p >= 0 && p <= 7);
        int least = Integer.MAX_VALUE;
        for (int set = 0; set < 1 << nodes; set++) {
            if ((set >> a & 1) == 1 && (set >> b & 1) == 0) {
                int sum = 0;
                for (int l = 0; l < links.size(); l++) {
                    Link k = links.get(l);
                    if (s.up.get(l) && (set >> k.a() & 1) == 1 && (set >> k.b() & 1) == 0) {
                        sum += Math.max(0, poolOf(s, l, p));
                    }
                }
                least = Math.min(least, sum);
            }
        }
        return least;
    }

    int distance(int a, int b) {
        needNode(a);
        needNode(b);
        return a == b ? 0 : all(s, a, b, 0, 7).stream().mapToInt(this::metric).min().orElse(-1);
    }

    int room(int t) {
        needTunnel(t);
        for (int bandwidth = 99; bandwidth > 0; bandwidth--) {
            if (bestBy(s, t, bandwidth, tunnels.get(t).setup()) != null) {
                return bandwidth;
            }
        }
        return 0;
    }

    int saved(int l) {
        needLink(l);
        if (!s.up.get(l)) {
            return 0;
        }
        int bits = 0;
        for (int t = 0; t < tunnels.size(); t++) {
            if (on(s, t, l)) {
                State tried = s.copy();
                tried.up.set(l, false);
                tried.ways.set(t, null);
                bits |= bestNow(tried, t) != null ? 1 << t : 0;
            }
        }
        return bits;
    }

    // ---- what is seen, and luck

    int see(int a, int b, int bandwidth, int setup, boolean is) {
        needNode(a);
        needNode(b);
        if (seen.size() == 8 || a == b || bandwidth < 1 || bandwidth > 99 || setup < 0 || setup > 7) {
            status[2]++;
            return -1;
        }
        seen.add(new Seen(a, b, bandwidth, setup, is));
        return seen.size();
    }

    void forget() {
        seen.clear();
    }

    boolean allSo() {
        return seen.stream().allMatch(x -> couldAsk(x.a(), x.b(), x.bandwidth(), x.setup()) == x.is());
    }

    int other(int what) {
        need(what >= 0 && what <= 2);
        if (what == 2) {
            return allSo() ? 1 : 0;
        }
        int found = 0;
        int first = -1;
        for (int l = 0; l < links.size(); l++) {
            Link was = links.get(l);
            int taken = takenOf(s, l);
            for (int c = 1; c <= 20; c++) {
                if (c != was.capacity() && c >= taken) {
                    links.set(l, new Link(was.a(), was.b(), was.metric(), c, was.colours()));
                    if (allSo()) {
                        found++;
                        first = first < 0 ? 100 * l + c : first;
                    }
                }
            }
            links.set(l, was);
        }
        return what == 0 ? found : first;
    }

    int luck(int t, int tenths) {
        needTunnel(t);
        want(tenths >= 0 && tenths <= 10);
        List<List<Integer>> ways = allWays(s, t);
        List<Integer> shaky = new ArrayList<>();
        for (int l = 0; l < Math.min(8, links.size()); l++) {
            if (s.up.get(l)) {
                shaky.add(l);
            }
        }
        int sum = 0;
        for (int set = 0; set < 1 << shaky.size(); set++) {
            Set<Integer> failed = new HashSet<>();
            int chance = 1;
            for (int i = 0; i < shaky.size(); i++) {
                if ((set >> i & 1) == 1) {
                    failed.add(shaky.get(i));
                    chance *= tenths;
                } else {
                    chance *= 10 - tenths;
                }
            }
            if (ways.stream().anyMatch(w -> w.stream().noneMatch(failed::contains))) {
                sum += chance;
            }
        }
        return sum;
    }

    private int seed;

    private int draw(int n) {
        seed = seed * 1103515245 + 12345;
        return (seed >> 16 & 0x7fff) % n;
    }

    int years(int start, int n, int what) {
        need(what >= 0 && what <= 2);
        want(n >= 0 && n <= 60);
        seed = start;
        State st = s.copy();
        int pushed = 0;
        for (int year = 0; year < n; year++) {
            int kind = draw(4);
            if (kind == 3 && !links.isEmpty()) {
                int l = draw(links.size());
                if (st.up.get(l)) {
                    pushed += failing(st, l);
                } else {
                    st.up.set(l, true);
                }
            } else if (kind < 3 && !tunnels.isEmpty()) {
                int t = draw(tunnels.size());
                if (kind == 2) {
                    st.ways.set(t, null);
                } else if (!st.stands(t)) {
                    pushed += settle(st, new HashSet<>(Set.of(t)));
                }
            }
        }
        return what == 0 ? Integer.bitCount(standing(st)) : what == 1 ? pushed : takenAll(st);
    }

    void image() {
        imageState = s.copy();
        imageActs = new ArrayList<>();
        for (State a : acts) {
            imageActs.add(a.copy());
        }
        imageSeen = new ArrayList<>(seen);
    }

    boolean restore() {
        if (imageState == null) {
            return false;
        }
        s = imageState.copy();
        acts = new ArrayDeque<>();
        for (State a : imageActs) {
            acts.addLast(a.copy());
        }
        seen = new ArrayList<>(imageSeen);
        return true;
    }
}
