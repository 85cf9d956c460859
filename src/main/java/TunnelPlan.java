import java.util.NoSuchElementException;

/** A tunnel planner with eight priorities; README.md says how it is used. */
public final class TunnelPlan {
    public static final int NONE = -1;

    private static final int MOST_NODES = 8;
    private static final int MOST_LINKS = 16;
    private static final int MOST_TUNNELS = 9;
    private static final int MOST_HOPS = 7;
    private static final int WEAKEST = 7;
    private static final int MOST_AMOUNT = 99;
    private static final int MOST_COLOURS = 15;
    private static final int MOST_BYTES = 700;
    private static final int MOST_ACTS = 40;
    private static final int MOST_SEEN = 8;
    private static final int MOST_YEARS = 60;
    private static final int MOST_GUESS = 20;
    private static final int SHAKY_LINKS = 8;
    private static final int FAR = 1000000;

    private final byte[] tape = new byte[MOST_BYTES];
    private int tapeLength;
    private int faultPlace = NONE;
    private int refusedTexts;
    private int refusedActs;
    private int refusedSights;
    private final Net net = new Net();
    private final Net draft = new Net();
    private final Reader reader = new Reader();
    private final Search search = new Search(net);
    private final State state = new State();
    private final State aside = new State();
    private final Ledger ledger = new Ledger(net, search, state);
    private final Moves moves = new Moves(net, search, ledger);
    private final Acts acts = new Acts();
    private final Sight sight = new Sight();
    private boolean imageThere;
    private final State imageState = new State();
    private final Acts imageActs = new Acts();
    private final Sight imageSight = new Sight();

    public TunnelPlan() {
    }

    public int feed(int a, int b, int c, int d, int e) {
        if (tapeLength + 20 > MOST_BYTES) {
            return NONE;
        }
        putBytes(a);
        putBytes(b);
        putBytes(c);
        putBytes(d);
        putBytes(e);
        return tapeLength;
    }

    private void putBytes(int number) {
        for (int shift = 24; shift >= 0 && tapeLength < MOST_BYTES; shift -= 8) {
            tape[tapeLength] = (byte) (number >>> shift);
            tapeLength++;
        }
    }

    public int network(int n) throws IllegalArgumentException {
        if (n < 0 || n > tapeLength) {
            throw new IllegalArgumentException("the tape has not so many bytes");
        }
        int fault = reader.read(tape, n, draft);
        faultPlace = reader.place;
        tapeLength = 0;
        if (fault != 0) {
            refusedTexts++;
            return fault;
        }
        net.copyFrom(draft);
        state.begin(net);
        acts.clear();
        sight.clear();
        imageThere = false;
        return 0;
    }

    public int fault() {
        return faultPlace;
    }

    public int count(int what) throws NoSuchElementException {
        switch (what) {
            case 0: return net.nodes;
            case 1: return net.links;
            case 2: return net.tunnels;
            case 3: return ledger.standing();
            case 4: return state.up;
            case 5: return ledger.takenOfAll();
            case 6: return ledger.metricOfAll();
            case 7: return ledger.fullestLink();
            case 8: return ledger.percentOf(ledger.fullestLink());
            case 9: return worstLink();
            case 10: return lostBy(worstLink());
            case 11: return acts.size;
            case 12: return sight.size;
            case 13: return tapeLength;
            case 14: return refusedTexts;
            case 15: return refusedActs;
            case 16: return refusedSights;
            default: throw new NoSuchElementException("no such count");
        }
    }

    private int worstLink() {
        int worst = NONE;
        int most = 0;
        for (int link = 0; link < net.links; link++) {
            int lost = lostBy(link);
            if (lost > most) {
                most = lost;
                worst = link;
            }
        }
        return worst;
    }

    /** How many tunnels that stand would not in the end, if the link failed; all is put back. */
    private int lostBy(int link) {
        if (link == NONE || ledger.tunnelsOn(link) == 0) {
            return 0;
        }
        int stood = ledger.standing();
        aside.copyFrom(state);
        ledger.settle(ledger.breakLink(link));
        int lost = Integer.bitCount(stood & ~ledger.standing());
        state.copyFrom(aside);
        return lost;
    }

    private void checkLink(int link) {
        if (link < 0 || link >= net.links) {
            throw new NoSuchElementException("no such link");
        }
    }

    private void checkTunnel(int tunnel) {
        if (tunnel < 0 || tunnel >= net.tunnels) {
            throw new NoSuchElementException("no such tunnel");
        }
    }

    private void checkNodes(int node, int other) {
        if (node < 0 || node >= net.nodes || other < 0 || other >= net.nodes) {
            throw new NoSuchElementException("no such node");
        }
    }

    private static void checkUnlike(int node, int other) {
        if (node == other) {
            throw new IllegalArgumentException("both nodes are one");
        }
    }

    private static boolean isPriority(int priority) {
        return priority >= 0 && priority <= WEAKEST;
    }

    private static boolean isAmount(int amount) {
        return amount >= 1 && amount <= MOST_AMOUNT;
    }

    private static void checkPriority(int priority) {
        if (!isPriority(priority)) {
            throw new IllegalArgumentException("no such priority");
        }
    }

    private static void checkPlace(int i) {
        if (i < 0) {
            throw new NoSuchElementException("no such place");
        }
    }

    public int link(int link, int what) throws NoSuchElementException {
        checkLink(link);
        switch (what) {
            case 0: return net.from[link];
            case 1: return net.to[link];
            case 2: return net.metric[link];
            case 3: return net.capacity[link];
            case 4: return net.colours[link];
            case 5: return state.up >>> link & 1;
            case 6: return ledger.taken(link);
            case 7: return ledger.tunnelsOn(link);
            default: throw new NoSuchElementException("a link has no such thing");
        }
    }

    public int pool(int link, int priority) throws NoSuchElementException, IllegalArgumentException {
        checkLink(link);
        checkPriority(priority);
        return ledger.poolWithout(NONE, link, priority);
    }

    public int tunnel(int tunnel, int what) throws NoSuchElementException {
        checkTunnel(tunnel);
        int way = state.ways[tunnel];
        switch (what) {
            case 0: return net.head[tunnel];
            case 1: return net.tail[tunnel];
            case 2: return state.bandwidth[tunnel];
            case 3: return net.setup[tunnel];
            case 4: return net.hold[tunnel];
            case 5: return net.shuns[tunnel];
            case 6: return net.hops[tunnel];
            case 7: return way != 0 ? 1 : 0;
            case 8: return way != 0 ? Integer.bitCount(way) : NONE;
            case 9: return way != 0 ? net.metricOf(way) : NONE;
            case 10: return way != 0 ? net.metricOf(way) - ledger.leastMetric(tunnel) : NONE;
            default: throw new NoSuchElementException("a tunnel has no such thing");
        }
    }

    public int way(int tunnel, int i) throws NoSuchElementException {
        checkTunnel(tunnel);
        checkPlace(i);
        int link = net.linkAt(state.ways[tunnel], net.head[tunnel], i);
        if (link == NONE) {
            throw new NoSuchElementException("the way has no such link");
        }
        return link;
    }

    public int best(int tunnel, int i) throws NoSuchElementException {
        checkTunnel(tunnel);
        checkPlace(i);
        return net.linkAt(ledger.bestNow(tunnel), net.head[tunnel], i);
    }

    public int pushes(int tunnel, int what) throws NoSuchElementException {
        checkTunnel(tunnel);
        if (what != 0 && what != 1) {
            throw new NoSuchElementException("pushes has no such thing");
        }
        int way = ledger.bestNow(tunnel);
        if (way == 0) {
            return NONE;
        }
        int others = ledger.standing() & ~(1 << tunnel);
        aside.copyFrom(state);
        state.ways[tunnel] = way;
        int pushed = ledger.whomToPush(tunnel);
        ledger.drop(pushed);
        ledger.settle(pushed);
        int fewer = Integer.bitCount(others & ~ledger.standing());
        state.copyFrom(aside);
        return what == 0 ? pushed : fewer;
    }

    private int refuseAct() {
        refusedActs++;
        return NONE;
    }

    public int setUp(int tunnel) throws NoSuchElementException {
        checkTunnel(tunnel);
        if (state.ways[tunnel] != 0 || ledger.bestNow(tunnel) == 0) {
            return refuseAct();
        }
        acts.keep(state);
        return ledger.settle(1 << tunnel);
    }

    public boolean tearDown(int tunnel) throws NoSuchElementException {
        checkTunnel(tunnel);
        if (state.ways[tunnel] == 0) {
            refuseAct();
            return false;
        }
        acts.keep(state);
        state.ways[tunnel] = 0;
        return true;
    }

    public int move(int tunnel) throws NoSuchElementException {
        checkTunnel(tunnel);
        int way = state.ways[tunnel];
        if (way == 0 || ledger.bestNow(tunnel) == way) {
            return refuseAct();
        }
        acts.keep(state);
        return ledger.settle(1 << tunnel);
    }

    public int resize(int tunnel, int bandwidth) throws NoSuchElementException {
        checkTunnel(tunnel);
        int was = state.bandwidth[tunnel];
        if (!isAmount(bandwidth) || bandwidth == was) {
            return refuseAct();
        }
        boolean stands = state.ways[tunnel] != 0;
        if (stands && ledger.bestWay(tunnel, bandwidth, net.setup[tunnel]) == 0) {
            return refuseAct();
        }
        acts.keep(state);
        state.bandwidth[tunnel] = bandwidth;
        if (stands) {
            ledger.settle(1 << tunnel);
        }
        return was;
    }

    public int fail(int link) throws NoSuchElementException {
        checkLink(link);
        if ((state.up >>> link & 1) == 0) {
            return refuseAct();
        }
        acts.keep(state);
        int stood = ledger.standing();
        ledger.settle(ledger.breakLink(link));
        return Integer.bitCount(stood & ~ledger.standing());
    }

    public boolean mend(int link) throws NoSuchElementException {
        checkLink(link);
        if ((state.up >>> link & 1) != 0) {
            refuseAct();
            return false;
        }
        acts.keep(state);
        state.up |= 1 << link;
        return true;
    }

    public int undo() {
        if (acts.size == 0) {
            return NONE;
        }
        acts.takeBack(state);
        return acts.size;
    }

    public int planned(int tunnel, int i) throws NoSuchElementException {
        checkTunnel(tunnel);
        checkPlace(i);
        moves.makePlan();
        return net.linkAt(moves.plannedWay(tunnel), net.head[tunnel], i);
    }

    public int order(int i) throws NoSuchElementException {
        checkPlace(i);
        moves.makePlan();
        return moves.inRow(i);
    }

    public int toBreak() {
        moves.makePlan();
        return moves.fewestToBreak();
    }

    public int widest(int node, int other, int priority) throws NoSuchElementException, IllegalArgumentException {
        checkNodes(node, other);
        checkUnlike(node, other);
        checkPriority(priority);
        ledger.showPools(NONE, priority);
        return search.widestOf(state.up, node, other, MOST_HOPS);
    }

    public int apart(int tunnel) throws NoSuchElementException {
        checkTunnel(tunnel);
        Apart apart = new Apart(net, search, ledger.openTo(tunnel), net.tail[tunnel], net.hops[tunnel]);
        return apart.leastSum(net.head[tunnel]);
    }

    public int cuts(int node, int other) throws NoSuchElementException, IllegalArgumentException {
        checkNodes(node, other);
        checkUnlike(node, other);
        int cut = 0;
        if (!search.reaches(state.up, node, other, MOST_HOPS)) {
            return cut;
        }
        for (int link = 0; link < net.links; link++) {
            int bit = 1 << link;
            if ((state.up & bit) != 0 && !search.reaches(state.up & ~bit, node, other, MOST_HOPS)) {
                cut |= bit;
            }
        }
        return cut;
    }

    public int flow(int node, int other, int priority) throws NoSuchElementException, IllegalArgumentException {
        checkNodes(node, other);
        checkUnlike(node, other);
        checkPriority(priority);
        ledger.showPools(NONE, priority);
        return search.mostFlow(state.up, node, other);
    }

    public int distance(int node, int other) throws NoSuchElementException {
        checkNodes(node, other);
        int metric = search.leastMetric(state.up, node, other, MOST_HOPS);
        return metric < FAR ? metric : NONE;
    }

    public int room(int tunnel) throws NoSuchElementException {
        checkTunnel(tunnel);
        ledger.showPools(tunnel, net.setup[tunnel]);
        return search.widestOf(ledger.openTo(tunnel), net.head[tunnel], net.tail[tunnel], net.hops[tunnel]);
    }

    public int saved(int link) throws NoSuchElementException {
        checkLink(link);
        int on = ledger.tunnelsOn(link);
        int safe = 0;
        for (int tunnel = 0; tunnel < net.tunnels; tunnel++) {
            if ((on >>> tunnel & 1) != 0 && ledger.hasWayWithout(tunnel, link)) {
                safe |= 1 << tunnel;
            }
        }
        return safe;
    }

    public int see(int node, int other, int bandwidth, int setup, boolean is) throws NoSuchElementException {
        checkNodes(node, other);
        boolean good = node != other && isAmount(bandwidth) && isPriority(setup);
        if (!good || sight.size >= MOST_SEEN) {
            refusedSights++;
            return NONE;
        }
        sight.add(node, other, bandwidth, setup, is);
        return sight.size;
    }

    public void forget() {
        sight.clear();
    }

    public int other(int what) throws NoSuchElementException {
        if (what < 0 || what > 2) {
            throw new NoSuchElementException("other has no such thing");
        }
        if (what == 2) {
            return sight.isSo(ledger, search) ? 1 : 0;
        }
        return otherCapacities(what == 1);
    }

    /** How many other capacities of one link there are by which all that is seen would be so; or the first of them. */
    private int otherCapacities(boolean onlyFirst) {
        int found = 0;
        for (int link = 0; link < net.links; link++) {
            sight.bound(ledger, search, link);
            int least = Math.max(sight.least, Math.max(1, ledger.taken(link)));
            int most = Math.min(sight.most, MOST_GUESS);
            for (int capacity = least; capacity <= most; capacity++) {
                if (capacity != net.capacity[link]) {
                    if (onlyFirst) {
                        return 100 * link + capacity;
                    }
                    found++;
                }
            }
        }
        return onlyFirst ? NONE : found;
    }

    public int luck(int tunnel, int tenths) throws NoSuchElementException, IllegalArgumentException {
        checkTunnel(tunnel);
        if (tenths < 0 || tenths > 10) {
            throw new IllegalArgumentException("tenths are 0 to 10");
        }
        int open = ledger.openTo(tunnel);
        int all = 1 << SHAKY_LINKS;
        int shaky = state.up & all - 1;
        int sum = 0;
        for (int failed = 0; failed < all; failed++) {
            if ((failed & ~shaky) != 0) {
                continue;
            }
            int chance = power(tenths, Integer.bitCount(failed)) * power(10 - tenths, Integer.bitCount(shaky & ~failed));
            if (chance != 0 && search.reaches(open & ~failed, net.head[tunnel], net.tail[tunnel], net.hops[tunnel])) {
                sum += chance;
            }
        }
        return sum;
    }

    private static int power(int base, int exponent) {
        int product = 1;
        for (int i = 0; i < exponent; i++) {
            product *= base;
        }
        return product;
    }

    public int years(int seed, int n, int what) throws NoSuchElementException, IllegalArgumentException {
        if (what < 0 || what > 2) {
            throw new NoSuchElementException("years has no such thing");
        }
        if (n < 0 || n > MOST_YEARS) {
            throw new IllegalArgumentException("years are 0 to 60");
        }
        aside.copyFrom(state);
        Years years = new Years(net, ledger, seed);
        for (int year = 0; year < n; year++) {
            years.pass();
        }
        int answer = years.pushed;
        if (what == 0) {
            answer = Integer.bitCount(ledger.standing());
        } else if (what == 2) {
            answer = ledger.takenOfAll();
        }
        state.copyFrom(aside);
        return answer;
    }

    public void image() {
        imageState.copyFrom(state);
        imageActs.copyFrom(acts);
        imageSight.copyFrom(sight);
        imageThere = true;
    }

    public boolean restore() {
        if (!imageThere) {
            return false;
        }
        state.copyFrom(imageState);
        acts.copyFrom(imageActs);
        sight.copyFrom(imageSight);
        return true;
    }

    /** The network as its text told it; a way goes through no node twice, so its links as bits tell it whole. */
    private static final class Net {
        private int nodes = 2;
        private int links;
        private int tunnels;
        private final int[] from = new int[MOST_LINKS];
        private final int[] to = new int[MOST_LINKS];
        private final int[] metric = new int[MOST_LINKS];
        private final int[] capacity = new int[MOST_LINKS];
        private final int[] colours = new int[MOST_LINKS];
        private final int[] head = new int[MOST_TUNNELS];
        private final int[] tail = new int[MOST_TUNNELS];
        private final int[] asked = new int[MOST_TUNNELS];
        private final int[] setup = new int[MOST_TUNNELS];
        private final int[] hold = new int[MOST_TUNNELS];
        private final int[] shuns = new int[MOST_TUNNELS];
        private final int[] hops = new int[MOST_TUNNELS];

        private void clear() {
            nodes = 2;
            links = 0;
            tunnels = 0;
        }

        private void copyFrom(Net source) {
            nodes = source.nodes;
            links = source.links;
            tunnels = source.tunnels;
            System.arraycopy(source.from, 0, from, 0, MOST_LINKS);
            System.arraycopy(source.to, 0, to, 0, MOST_LINKS);
            System.arraycopy(source.metric, 0, metric, 0, MOST_LINKS);
            System.arraycopy(source.capacity, 0, capacity, 0, MOST_LINKS);
            System.arraycopy(source.colours, 0, colours, 0, MOST_LINKS);
            System.arraycopy(source.head, 0, head, 0, MOST_TUNNELS);
            System.arraycopy(source.tail, 0, tail, 0, MOST_TUNNELS);
            System.arraycopy(source.asked, 0, asked, 0, MOST_TUNNELS);
            System.arraycopy(source.setup, 0, setup, 0, MOST_TUNNELS);
            System.arraycopy(source.hold, 0, hold, 0, MOST_TUNNELS);
            System.arraycopy(source.shuns, 0, shuns, 0, MOST_TUNNELS);
            System.arraycopy(source.hops, 0, hops, 0, MOST_TUNNELS);
        }

        private int metricOf(int way) {
            int sum = 0;
            for (int link = 0; link < links; link++) {
                if ((way >>> link & 1) != 0) {
                    sum += metric[link];
                }
            }
            return sum;
        }

        /** The i-th link of a way that begins at a node; NONE if it has not so many. */
        private int linkAt(int way, int start, int i) {
            int node = start;
            for (int step = 0; step < MOST_HOPS; step++) {
                int link = linkFrom(way, node);
                if (link == NONE || step == i) {
                    return link;
                }
                node = to[link];
            }
            return NONE;
        }

        private int linkFrom(int way, int node) {
            for (int link = 0; link < links; link++) {
                if ((way >>> link & 1) != 0 && from[link] == node) {
                    return link;
                }
            }
            return NONE;
        }
    }

    /** Reads a text into a network; behind the first fault nothing is read any more. */
    private static final class Reader {
        private static final int END = 0;
        private static final int WORD = 1;
        private static final int NUMBER = 2;
        private static final int SEMICOLON = 3;
        private static final int SIGN = 4;
        private static final int MOST_DIGITS = 4;

        private byte[] bytes = new byte[0];
        private int length;
        private int kind;
        private int start;
        private int end;
        private int value;
        private int code;
        private int place = NONE;

        private int read(byte[] text, int n, Net into) {
            bytes = text;
            length = Math.min(n, text.length);
            code = 0;
            place = NONE;
            end = 0;
            into.clear();
            next();
            if (isWord("nodes")) {
                next();
                into.nodes = number(2, MOST_NODES);
                semicolon();
            }
            for (int line = 0; line < MOST_BYTES && code == 0 && kind != END; line++) {
                if (isWord("link")) {
                    readLink(into, into.links);
                } else if (isWord("tunnel")) {
                    readTunnel(into, into.tunnels);
                } else {
                    flag(1);
                }
            }
            return code;
        }

        private void readLink(Net into, int link) {
            if (link >= MOST_LINKS) {
                flag(2);
                return;
            }
            next();
            into.from[link] = node(into.nodes, NONE);
            into.to[link] = node(into.nodes, into.from[link]);
            into.metric[link] = number(1, MOST_AMOUNT);
            into.capacity[link] = number(1, MOST_AMOUNT);
            into.colours[link] = kind == NUMBER ? number(0, MOST_COLOURS) : 0;
            semicolon();
            into.links = link + 1;
        }

        private void readTunnel(Net into, int tunnel) {
            if (tunnel >= MOST_TUNNELS) {
                flag(2);
                return;
            }
            next();
            into.head[tunnel] = node(into.nodes, NONE);
            into.tail[tunnel] = node(into.nodes, into.head[tunnel]);
            into.asked[tunnel] = number(1, MOST_AMOUNT);
            into.setup[tunnel] = number(0, WEAKEST);
            into.hold[tunnel] = number(0, into.setup[tunnel]);
            boolean told = kind == NUMBER;
            into.shuns[tunnel] = told ? number(0, MOST_COLOURS) : 0;
            into.hops[tunnel] = told && kind == NUMBER ? number(1, MOST_HOPS) : MOST_HOPS;
            semicolon();
            into.tunnels = tunnel + 1;
        }

        private int number(int least, int most) {
            if (kind != NUMBER) {
                flag(1);
            } else if (end - start > MOST_DIGITS || value < least || value > most) {
                flag(2);
            }
            return accept(least);
        }

        /** Of one token the least fault counts, so too many digits come ahead of a node that there isn't. */
        private int node(int nodes, int not) {
            if (kind != NUMBER) {
                flag(1);
            } else if (end - start > MOST_DIGITS) {
                flag(2);
            } else if (value >= nodes) {
                flag(3);
            } else if (value == not) {
                flag(4);
            }
            return accept(0);
        }

        private int accept(int otherwise) {
            if (code != 0) {
                return otherwise;
            }
            int accepted = value;
            next();
            return accepted;
        }

        private void semicolon() {
            if (kind != SEMICOLON) {
                flag(1);
            }
            if (code == 0) {
                next();
            }
        }

        private void flag(int fault) {
            if (code == 0) {
                code = fault;
                place = start;
            }
        }

        private void next() {
            start = end;
            while (start < length && isBlank(bytes[start])) {
                start++;
            }
            end = start;
            if (start >= length) {
                kind = END;
                return;
            }
            int first = bytes[start];
            if (first >= 'a' && first <= 'z') {
                kind = WORD;
                endOfRow('a', 'z');
            } else if (first >= '0' && first <= '9') {
                kind = NUMBER;
                endOfRow('0', '9');
                value = valueOfRow();
            } else {
                kind = first == ';' ? SEMICOLON : SIGN;
                end = start + 1;
            }
        }

        private static boolean isBlank(int sign) {
            return sign == ' ' || sign == '\n';
        }

        private void endOfRow(int least, int most) {
            while (end < length && bytes[end] >= least && bytes[end] <= most) {
                end++;
            }
        }

        private int valueOfRow() {
            int sum = 0;
            for (int i = start; i < end; i++) {
                sum = Math.min(FAR, sum * 10 + bytes[i] - '0');
            }
            return sum;
        }

        private boolean isWord(String word) {
            if (kind != WORD || end - start != word.length()) {
                return false;
            }
            for (int i = 0; i < word.length(); i++) {
                if (bytes[start + i] != word.charAt(i)) {
                    return false;
                }
            }
            return true;
        }
    }

    /** What acts change: each tunnel's way (links as bits; 0: it doesn't stand) and bandwidth, and which links are up. */
    private static final class State {
        private final int[] ways = new int[MOST_TUNNELS];
        private final int[] bandwidth = new int[MOST_TUNNELS];
        private int up;

        private void begin(Net net) {
            for (int tunnel = 0; tunnel < MOST_TUNNELS; tunnel++) {
                ways[tunnel] = 0;
                bandwidth[tunnel] = net.asked[tunnel];
            }
            up = (1 << net.links) - 1;
        }

        private void copyFrom(State source) {
            for (int tunnel = 0; tunnel < MOST_TUNNELS; tunnel++) {
                ways[tunnel] = source.ways[tunnel];
                bandwidth[tunnel] = source.bandwidth[tunnel];
            }
            up = source.up;
        }
    }

    /** Looks for ways over some links (as bits); how wide each link is, the asker writes into widths first. */
    private static final class Search {
        private final Net net;
        private final int[] widths = new int[MOST_LINKS];
        // By links that are left and by nodes, a row of nodes for each number of links.
        private final int[] toGo = new int[(MOST_HOPS + 1) * MOST_NODES];
        private final int[] span = new int[(MOST_HOPS + 1) * MOST_NODES];
        private final int[] sent = new int[MOST_LINKS];
        private final int[] via = new int[MOST_NODES];
        private int rows;

        private Search(Net net) {
            this.net = net;
        }

        private boolean reaches(int links, int from, int to, int hops) {
            int reached = 1 << from;
            for (int hop = 0; hop < hops && (reached >>> to & 1) == 0; hop++) {
                int before = reached;
                for (int link = 0; link < net.links; link++) {
                    if ((links >>> link & before >>> net.from[link] & 1) != 0) {
                        reached |= 1 << net.to[link];
                    }
                }
                if (reached == before) {
                    break;
                }
            }
            return (reached >>> to & 1) != 0;
        }

        /** The least metric of a way of so many links at most; FAR: there is none. No metric is 0, so it goes nowhere twice. */
        private int leastMetric(int links, int from, int to, int hops) {
            for (int node = 0; node < MOST_NODES; node++) {
                toGo[node] = node == to ? 0 : FAR;
            }
            rows = 0;
            boolean better = true;
            while (better && rows < hops && rows < MOST_HOPS) {
                int last = rows * MOST_NODES;
                int row = last + MOST_NODES;
                rows++;
                better = false;
                System.arraycopy(toGo, last, toGo, row, MOST_NODES);
                for (int link = 0; link < net.links; link++) {
                    int metric = net.metric[link] + toGo[last + net.to[link]];
                    if ((links >>> link & 1) != 0 && metric < toGo[row + net.from[link]]) {
                        toGo[row + net.from[link]] = metric;
                        better = true;
                    }
                }
            }
            return toGo[rows * MOST_NODES + from];
        }

        /** The best way, as bits, by the rules: metric, links, the narrowest width, the links' numbers; 0: none. */
        private int bestOf(int links, int from, int to, int hops) {
            int metric = leastMetric(links, from, to, hops);
            if (metric >= FAR) {
                return 0;
            }
            int steps = 0;
            while (steps < rows && toGo[steps * MOST_NODES + from] != metric) {
                steps++;
            }
            spanBestWays(links, to, steps);
            int wanted = span[steps * MOST_NODES + from];
            int way = 0;
            int node = from;
            for (int left = steps; left > 0; left--) {
                int link = firstStep(links, node, left, wanted);
                if (link == NONE) {
                    return 0;
                }
                way |= 1 << link;
                node = net.to[link];
            }
            return way;
        }

        /** Fills span: how wide the widest of the ways of least metric is, from each node, with so many links left. */
        private void spanBestWays(int links, int to, int steps) {
            for (int left = 0; left <= steps && left <= MOST_HOPS; left++) {
                int row = left * MOST_NODES;
                for (int node = 0; node < MOST_NODES; node++) {
                    span[row + node] = node == to ? FAR : -FAR;
                }
                for (int link = 0; link < net.links && left > 0; link++) {
                    int at = row + net.from[link];
                    int next = row - MOST_NODES + net.to[link];
                    boolean onBest = toGo[at] < FAR && toGo[at] == net.metric[link] + toGo[next];
                    if (onBest && (links >>> link & 1) != 0) {
                        span[at] = Math.max(span[at], Math.min(widths[link], span[next]));
                    }
                }
            }
        }

        /** The first link by which a way of least metric, and as wide as is wanted, can go on. */
        private int firstStep(int links, int node, int left, int wanted) {
            int at = left * MOST_NODES + node;
            for (int link = 0; link < net.links; link++) {
                int next = (left - 1) * MOST_NODES + net.to[link];
                boolean goesOn = (links >>> link & 1) != 0 && net.from[link] == node;
                boolean wide = widths[link] >= wanted && span[next] >= wanted;
                if (goesOn && wide && toGo[at] == net.metric[link] + toGo[next]) {
                    return link;
                }
            }
            return NONE;
        }

        /** How wide the widest way of so many links at most is; 0: none. */
        private int widestOf(int links, int from, int to, int hops) {
            for (int node = 0; node < MOST_NODES; node++) {
                span[node] = node == from ? FAR : 0;
            }
            int row = 0;
            for (int hop = 0; hop < hops && hop < MOST_HOPS; hop++) {
                int last = row;
                row += MOST_NODES;
                System.arraycopy(span, last, span, row, MOST_NODES);
                for (int link = 0; link < net.links; link++) {
                    int at = row + net.to[link];
                    if ((links >>> link & 1) != 0) {
                        span[at] = Math.max(span[at], Math.min(widths[link], span[last + net.from[link]]));
                    }
                }
            }
            return span[row + to];
        }

        private int mostFlow(int links, int from, int to) {
            for (int link = 0; link < MOST_LINKS; link++) {
                sent[link] = 0;
            }
            int sum = 0;
            // Each round sends 1 at least, and all links together have no more than that.
            for (int round = 0; round < MOST_LINKS * MOST_AMOUNT && findMore(links, from, to); round++) {
                sum += sendMore(from, to);
            }
            return sum;
        }

        /** Writes into via by which link each node was reached, a link's number less MOST_LINKS where it is gone back. */
        private boolean findMore(int links, int from, int to) {
            int reached = 1 << from;
            for (int round = 0; round < MOST_NODES && (reached >>> to & 1) == 0; round++) {
                for (int link = 0; link < net.links; link++) {
                    boolean atStart = (reached >>> net.from[link] & 1) != 0;
                    boolean atEnd = (reached >>> net.to[link] & 1) != 0;
                    boolean open = (links >>> link & 1) != 0 && sent[link] < widths[link];
                    if (atStart && !atEnd && open) {
                        via[net.to[link]] = link;
                        reached |= 1 << net.to[link];
                    } else if (atEnd && !atStart && sent[link] > 0) {
                        via[net.from[link]] = link - MOST_LINKS;
                        reached |= 1 << net.from[link];
                    }
                }
            }
            return (reached >>> to & 1) != 0;
        }

        private int sendMore(int from, int to) {
            int amount = FAR;
            int node = to;
            for (int step = 0; step < MOST_NODES && node != from; step++) {
                int link = via[node] & MOST_LINKS - 1;
                boolean back = via[node] < 0;
                amount = Math.min(amount, back ? sent[link] : widths[link] - sent[link]);
                node = back ? net.to[link] : net.from[link];
            }
            node = to;
            for (int step = 0; step < MOST_NODES && node != from; step++) {
                int link = via[node] & MOST_LINKS - 1;
                boolean back = via[node] < 0;
                sent[link] += back ? -amount : amount;
                node = back ? net.to[link] : net.from[link];
            }
            return amount;
        }
    }

    /** Two ways that have no link in common. */
    private static final class Apart {
        private final Net net;
        private final Search search;
        private final int links;
        private final int to;
        private final int hops;
        private int sum = FAR;

        private Apart(Net net, Search search, int links, int to, int hops) {
            this.net = net;
            this.search = search;
            this.links = links;
            this.to = to;
            this.hops = hops;
        }

        private int leastSum(int from) {
            tryFirst(from, from, 1 << from, 0, 0);
            return sum < FAR ? sum : NONE;
        }

        /** Goes through all ways that may be the shorter one of the two. */
        private void tryFirst(int from, int node, int passed, int way, int metric) {
            if (2 * metric >= sum) {
                return;
            }
            if (node == to) {
                sum = Math.min(sum, metric + search.leastMetric(links & ~way, from, to, hops));
                return;
            }
            if (Integer.bitCount(way) >= hops) {
                return;
            }
            for (int link = 0; link < net.links; link++) {
                int end = net.to[link];
                boolean goesOn = (links >>> link & 1) != 0 && net.from[link] == node;
                if (goesOn && (passed >>> end & 1) == 0) {
                    tryFirst(from, end, passed | 1 << end, way | 1 << link, metric + net.metric[link]);
                }
            }
        }
    }

    /** What is taken of links in a state, and how tunnels are set up in it. */
    private static final class Ledger {
        private final Net net;
        private final Search search;
        private final State state;

        private Ledger(Net net, Search search, State state) {
            this.net = net;
            this.search = search;
            this.state = state;
        }

        private int standing() {
            int bits = 0;
            for (int tunnel = 0; tunnel < net.tunnels; tunnel++) {
                if (state.ways[tunnel] != 0) {
                    bits |= 1 << tunnel;
                }
            }
            return bits;
        }

        private int tunnelsOn(int link) {
            int bits = 0;
            for (int tunnel = 0; tunnel < net.tunnels; tunnel++) {
                bits |= (state.ways[tunnel] >>> link & 1) << tunnel;
            }
            return bits;
        }

        private int taken(int link) {
            return net.capacity[link] - poolWithout(NONE, link, WEAKEST);
        }

        /** The pool, what one tunnel has there itself counted back. */
        private int poolWithout(int tunnel, int link, int priority) {
            int left = net.capacity[link];
            for (int i = 0; i < net.tunnels; i++) {
                if (i != tunnel && net.hold[i] <= priority && (state.ways[i] >>> link & 1) != 0) {
                    left -= state.bandwidth[i];
                }
            }
            return left;
        }

        private void showPools(int tunnel, int priority) {
            for (int link = 0; link < net.links; link++) {
                search.widths[link] = poolWithout(tunnel, link, priority);
            }
        }

        private int takenOfAll() {
            int sum = 0;
            for (int link = 0; link < net.links; link++) {
                sum += taken(link);
            }
            return sum;
        }

        private int metricOfAll() {
            int sum = 0;
            for (int tunnel = 0; tunnel < net.tunnels; tunnel++) {
                sum += net.metricOf(state.ways[tunnel]);
            }
            return sum;
        }

        private int fullestLink() {
            int fullest = NONE;
            for (int link = 0; link < net.links; link++) {
                boolean up = (state.up >>> link & 1) != 0;
                if (up && (fullest == NONE || percentOf(link) > percentOf(fullest))) {
                    fullest = link;
                }
            }
            return fullest;
        }

        private int percentOf(int link) {
            if (link == NONE || net.capacity[link] <= 0) {
                return 0;
            }
            return 100 * taken(link) / net.capacity[link];
        }

        /** Links that are up and have no colour that the tunnel shuns. */
        private int openTo(int tunnel) {
            int bits = 0;
            for (int link = 0; link < net.links; link++) {
                if ((net.colours[link] & net.shuns[tunnel]) == 0) {
                    bits |= state.up & 1 << link;
                }
            }
            return bits;
        }

        private int leastMetric(int tunnel) {
            return search.leastMetric(openTo(tunnel), net.head[tunnel], net.tail[tunnel], net.hops[tunnel]);
        }

        private int fitting(int tunnel, int bandwidth, int priority) {
            int open = openTo(tunnel);
            int bits = 0;
            for (int link = 0; link < net.links; link++) {
                if ((open >>> link & 1) != 0 && poolWithout(tunnel, link, priority) >= bandwidth) {
                    bits |= 1 << link;
                }
            }
            return bits;
        }

        private int bestNow(int tunnel) {
            return bestWay(tunnel, state.bandwidth[tunnel], net.setup[tunnel]);
        }

        private int bestWay(int tunnel, int bandwidth, int priority) {
            int links = fitting(tunnel, bandwidth, priority);
            showPools(tunnel, WEAKEST);
            return search.bestOf(links, net.head[tunnel], net.tail[tunnel], net.hops[tunnel]);
        }

        private boolean hasWayWithout(int tunnel, int link) {
            int links = fitting(tunnel, state.bandwidth[tunnel], net.setup[tunnel]) & ~(1 << link);
            return search.reaches(links, net.head[tunnel], net.tail[tunnel], net.hops[tunnel]);
        }

        private void drop(int tunnels) {
            for (int tunnel = 0; tunnel < net.tunnels; tunnel++) {
                if ((tunnels >>> tunnel & 1) != 0) {
                    state.ways[tunnel] = 0;
                }
            }
        }

        /** The link is up no more, and who was on it stands no more: who waits now. */
        private int breakLink(int link) {
            int waiting = tunnelsOn(link);
            drop(waiting);
            state.up &= ~(1 << link);
            return waiting;
        }

        /**
         * Sets up all that wait, and whom they push out: how many were pushed out.
         * Setups only grow weaker along the chain, so no tunnel has a second turn.
         */
        private int settle(int first) {
            int waiting = first;
            int pushed = 0;
            for (int turn = 0; turn < MOST_TUNNELS && waiting != 0; turn++) {
                int tunnel = strongest(waiting);
                waiting &= ~(1 << tunnel);
                int way = bestWay(tunnel, state.bandwidth[tunnel], net.setup[tunnel]);
                if (way != 0) {
                    state.ways[tunnel] = way;
                    int out = whomToPush(tunnel);
                    drop(out);
                    waiting |= out;
                    pushed += Integer.bitCount(out);
                }
            }
            return pushed;
        }

        private int strongest(int waiting) {
            int found = 0;
            int least = FAR;
            for (int tunnel = 0; tunnel < net.tunnels; tunnel++) {
                if ((waiting >>> tunnel & 1) != 0 && net.setup[tunnel] < least) {
                    least = net.setup[tunnel];
                    found = tunnel;
                }
            }
            return found;
        }

        /** Whom a tunnel that has just taken its way must push out: the set of the least cost. */
        private int whomToPush(int tunnel) {
            int over = overbooked(state.ways[tunnel]);
            if (over == 0) {
                return 0;
            }
            int weaker = weakerOn(over, net.setup[tunnel]);
            int chosen = 0;
            int least = 0;
            for (int set = 1; set <= weaker; set++) {
                if ((set & ~weaker) == 0) {
                    int cost = costOf(set);
                    if ((chosen == 0 || cost < least) && relieves(set, over)) {
                        least = cost;
                        chosen = set;
                    }
                }
            }
            return chosen;
        }

        private int overbooked(int links) {
            int bits = 0;
            for (int link = 0; link < net.links; link++) {
                if ((links >>> link & 1) != 0 && poolWithout(NONE, link, WEAKEST) < 0) {
                    bits |= 1 << link;
                }
            }
            return bits;
        }

        /** Only who is on one of the overbooked links can be worth its harm. */
        private int weakerOn(int links, int setup) {
            int bits = 0;
            for (int tunnel = 0; tunnel < net.tunnels; tunnel++) {
                if (net.hold[tunnel] > setup && (state.ways[tunnel] & links) != 0) {
                    bits |= 1 << tunnel;
                }
            }
            return bits;
        }

        /** Harm, then how many, then bandwidth, in one number: nine bandwidths are below 1000. */
        private int costOf(int set) {
            int cost = 0;
            for (int tunnel = 0; tunnel < net.tunnels; tunnel++) {
                if ((set >>> tunnel & 1) != 0) {
                    int harm = WEAKEST + 1 - net.hold[tunnel];
                    cost += (harm * 16 + 1) * 1000 + state.bandwidth[tunnel];
                }
            }
            return cost;
        }

        private boolean relieves(int set, int over) {
            for (int link = 0; link < net.links; link++) {
                if ((over >>> link & 1) != 0) {
                    int left = poolWithout(NONE, link, WEAKEST);
                    for (int tunnel = 0; tunnel < net.tunnels; tunnel++) {
                        if ((set >>> tunnel & state.ways[tunnel] >>> link & 1) != 0) {
                            left += state.bandwidth[tunnel];
                        }
                    }
                    if (left < 0) {
                        return false;
                    }
                }
            }
            return true;
        }
    }

    /** The plan of ways for all, and how those that stand come to them. */
    private static final class Moves {
        private final Net net;
        private final Ledger now;
        private final State state;
        private final State planState = new State();
        private final Ledger plan;
        private final int[] taken = new int[MOST_LINKS];
        private final int[] row = new int[MOST_TUNNELS];
        // Sets that were left to be moved and couldn't be, by the number of the search that found it.
        private final int[] stuck = new int[1 << MOST_TUNNELS];
        private int searches;

        private Moves(Net net, Search search, Ledger now) {
            this.net = net;
            this.now = now;
            this.state = now.state;
            this.plan = new Ledger(net, search, planState);
        }

        private int plannedWay(int tunnel) {
            return planState.ways[tunnel];
        }

        private void makePlan() {
            planState.copyFrom(state);
            plan.drop((1 << MOST_TUNNELS) - 1);
            int left = (1 << net.tunnels) - 1;
            for (int turn = 0; turn < net.tunnels; turn++) {
                int tunnel = firstOf(left);
                left &= ~(1 << tunnel);
                planState.ways[tunnel] = plan.bestWay(tunnel, state.bandwidth[tunnel], WEAKEST);
            }
        }

        private int firstOf(int left) {
            int found = 0;
            int least = FAR;
            for (int tunnel = 0; tunnel < net.tunnels; tunnel++) {
                int rank = net.setup[tunnel] * (WEAKEST + 1) + net.hold[tunnel];
                if ((left >>> tunnel & 1) != 0 && rank < least) {
                    least = rank;
                    found = tunnel;
                }
            }
            return found;
        }

        private int movers() {
            int bits = 0;
            for (int tunnel = 0; tunnel < net.tunnels; tunnel++) {
                int old = state.ways[tunnel];
                int planned = planState.ways[tunnel];
                if (old != 0 && planned != 0 && old != planned) {
                    bits |= 1 << tunnel;
                }
            }
            return bits;
        }

        private int inRow(int i) {
            int all = movers();
            if (i >= Integer.bitCount(all) || i >= MOST_TUNNELS || !canMove(all, 0)) {
                return NONE;
            }
            return row[i];
        }

        private int fewestToBreak() {
            int all = movers();
            if (!endFits(all)) {
                return NONE;
            }
            for (int size = 0; size <= MOST_TUNNELS; size++) {
                for (int set = 0; set <= all; set++) {
                    if ((set & ~all) == 0 && Integer.bitCount(set) == size && canMove(all & ~set, set)) {
                        return set;
                    }
                }
            }
            return NONE;
        }

        private boolean endFits(int all) {
            countTaken(0);
            for (int tunnel = 0; tunnel < net.tunnels; tunnel++) {
                if ((all >>> tunnel & 1) != 0) {
                    book(state.ways[tunnel], -state.bandwidth[tunnel]);
                    book(planState.ways[tunnel], state.bandwidth[tunnel]);
                }
            }
            for (int link = 0; link < net.links; link++) {
                if (taken[link] > net.capacity[link]) {
                    return false;
                }
            }
            return true;
        }

        private boolean canMove(int all, int broken) {
            searches++;
            countTaken(broken);
            return moveRest(all, 0);
        }

        private void countTaken(int broken) {
            for (int link = 0; link < net.links; link++) {
                taken[link] = now.taken(link);
            }
            for (int tunnel = 0; tunnel < net.tunnels; tunnel++) {
                if ((broken >>> tunnel & 1) != 0) {
                    book(state.ways[tunnel], -state.bandwidth[tunnel]);
                }
            }
        }

        private void book(int links, int bandwidth) {
            for (int link = 0; link < net.links; link++) {
                if ((links >>> link & 1) != 0) {
                    taken[link] += bandwidth;
                }
            }
        }

        /** What is taken depends on who is left alone, so a set that was stuck once needs no second look. */
        private boolean moveRest(int left, int depth) {
            if (left == 0) {
                return true;
            }
            if (depth >= MOST_TUNNELS || stuck[left] == searches) {
                return false;
            }
            for (int tunnel = 0; tunnel < net.tunnels; tunnel++) {
                if ((left >>> tunnel & 1) != 0 && mayMove(tunnel)) {
                    int gained = planState.ways[tunnel] & ~state.ways[tunnel];
                    int lost = state.ways[tunnel] & ~planState.ways[tunnel];
                    book(gained, state.bandwidth[tunnel]);
                    book(lost, -state.bandwidth[tunnel]);
                    if (moveRest(left & ~(1 << tunnel), depth + 1)) {
                        row[depth] = tunnel;
                        return true;
                    }
                    book(gained, -state.bandwidth[tunnel]);
                    book(lost, state.bandwidth[tunnel]);
                }
            }
            stuck[left] = searches;
            return false;
        }

        private boolean mayMove(int tunnel) {
            int gained = planState.ways[tunnel] & ~state.ways[tunnel];
            for (int link = 0; link < net.links; link++) {
                boolean over = taken[link] + state.bandwidth[tunnel] > net.capacity[link];
                if (over && (gained >>> link & 1) != 0) {
                    return false;
                }
            }
            return true;
        }
    }

    /** The states ahead of the latest acts, in a ring. */
    private static final class Acts {
        private final State[] before = new State[MOST_ACTS];
        private int first;
        private int size;

        private Acts() {
            for (int i = 0; i < MOST_ACTS; i++) {
                before[i] = new State();
            }
        }

        private void clear() {
            size = 0;
        }

        private void keep(State state) {
            if (size == MOST_ACTS) {
                first = (first + 1) % MOST_ACTS;
                size--;
            }
            before[(first + size) % MOST_ACTS].copyFrom(state);
            size++;
        }

        private void takeBack(State state) {
            if (size > 0) {
                size--;
                state.copyFrom(before[(first + size) % MOST_ACTS]);
            }
        }

        private void copyFrom(Acts source) {
            first = source.first;
            size = source.size;
            for (int i = 0; i < MOST_ACTS; i++) {
                before[i].copyFrom(source.before[i]);
            }
        }
    }

    /** What is seen, and which capacities of a link would make it so. */
    private static final class Sight {
        private final int[] from = new int[MOST_SEEN];
        private final int[] to = new int[MOST_SEEN];
        private final int[] bandwidth = new int[MOST_SEEN];
        private final int[] setup = new int[MOST_SEEN];
        private final boolean[] is = new boolean[MOST_SEEN];
        private int size;
        private int least;
        private int most;

        private void clear() {
            size = 0;
        }

        private void add(int node, int end, int amount, int priority, boolean so) {
            if (size < MOST_SEEN) {
                from[size] = node;
                to[size] = end;
                bandwidth[size] = amount;
                setup[size] = priority;
                is[size] = so;
                size++;
            }
        }

        private void copyFrom(Sight source) {
            size = source.size;
            for (int i = 0; i < MOST_SEEN; i++) {
                from[i] = source.from[i];
                to[i] = source.to[i];
                bandwidth[i] = source.bandwidth[i];
                setup[i] = source.setup[i];
                is[i] = source.is[i];
            }
        }

        private int wideEnough(Ledger ledger, int i) {
            int bits = 0;
            for (int link = 0; link < ledger.net.links; link++) {
                if (ledger.poolWithout(NONE, link, setup[i]) >= bandwidth[i]) {
                    bits |= 1 << link;
                }
            }
            return bits & ledger.state.up;
        }

        private boolean isSo(Ledger ledger, Search search) {
            for (int i = 0; i < size; i++) {
                if (search.reaches(wideEnough(ledger, i), from[i], to[i], MOST_HOPS) != is[i]) {
                    return false;
                }
            }
            return true;
        }

        /** Finds the least and the most capacity of the link with which all that is seen would be so. */
        private void bound(Ledger ledger, Search search, int link) {
            least = 0;
            most = FAR;
            int bit = 1 << link;
            for (int i = 0; i < size; i++) {
                int links = wideEnough(ledger, i);
                boolean without = search.reaches(links & ~bit, from[i], to[i], MOST_HOPS);
                boolean with = search.reaches(links | bit & ledger.state.up, from[i], to[i], MOST_HOPS);
                int needed = ledger.net.capacity[link] - ledger.poolWithout(NONE, link, setup[i]) + bandwidth[i];
                if (without == with) {
                    // The link makes no difference: so it is with every capacity, or with none.
                    most = without == is[i] ? most : NONE;
                } else if (is[i]) {
                    least = Math.max(least, needed);
                } else {
                    most = Math.min(most, needed - 1);
                }
            }
        }
    }

    /** Years that pass by a seed; whoever lets them pass puts the state back. */
    private static final class Years {
        private final Net net;
        private final Ledger ledger;
        private int seed;
        private int pushed;

        private Years(Net net, Ledger ledger, int seed) {
            this.net = net;
            this.ledger = ledger;
            this.seed = seed;
        }

        private int draw(int n) {
            seed = seed * 1103515245 + 12345;
            return n > 0 ? (seed >>> 16 & 32767) % n : 0;
        }

        private void pass() {
            int kind = draw(4);
            if (kind == 3) {
                if (net.links > 0) {
                    turnLink(draw(net.links));
                }
            } else if (net.tunnels > 0) {
                int tunnel = draw(net.tunnels);
                if (kind == 2) {
                    ledger.drop(1 << tunnel);
                } else if (ledger.state.ways[tunnel] == 0) {
                    pushed += ledger.settle(1 << tunnel);
                }
            }
        }

        private void turnLink(int link) {
            if ((ledger.state.up >>> link & 1) != 0) {
                pushed += ledger.settle(ledger.breakLink(link));
            } else {
                ledger.state.up |= 1 << link;
            }
        }
    }
}
