import java.util.Arrays;

/**
 * Wires that branch out from one source to ends, repeaters that may stand on them, and what they do to the time.
 *
 * Words in capitals of the document (NODE, KIND, SHOWS, SLACK ..) keep their meaning in the names below.
 * The parts: Net is section 1 of the document, Timing is section 2, Front and Choices are section 3's
 * CANDIDATES and POINTS; Past, Book and Draws hold what can be undone, THE BOOK and THE SEED.
 * All rows are made with the object and used again, so a call makes (next to) nothing new.
 */
public final class RepeaterWires {
    public static final int NONE = -1, PLUS = 1000000, NEVER = 900000, UNKNOWN = -1000000001, OUTSIDE = -1000000002, NOT = -1000000003, FULL = -1000000004;

    private static final int MOST_NODES = 6;
    private static final int MOST_KINDS = 3;
    private static final int MOST_DIGIT = 9;
    private static final int MOST_NEED = 9999;
    private static final int MOST_OWN = 99;
    private static final int MOST_COST = 99;
    private static final int MOST_WIDTH = 2;
    private static final int MOST_ENTRIES = 20;
    private static final int MOST_DEEDS = 16;
    private static final int MOST_DRIFT = 6;
    private static final int MOST_IMAGES = 2;
    // four choices (three KINDS, or none) at each of five NODES
    private static final int MOST_WAYS = 1024;
    private static final int FIRST_ROOM = 16;

    private final Net net = new Net();
    // questions of the form "what if" are tried here, so that no question touches what is so
    private final Net trial = new Net();
    private final Timing timing = new Timing();
    private final Choices choices = new Choices();
    private final Past past = new Past();
    private final Book book = new Book();
    private final Draws draws = new Draws();
    private final Net[] images = new Net[MOST_IMAGES];
    private final int[] imageSeeds = new int[MOST_IMAGES];
    private final boolean[] imageKept = new boolean[MOST_IMAGES];

    public RepeaterWires() {
        for (int i = 0; i < MOST_IMAGES; i++) {
            images[i] = new Net();
        }
    }

    // ---- what is so

    public int told(int what) {
        switch (what) {
            case 0: return net.size;
            case 1: return net.ends();
            case 2: return net.sourcePull;
            case 3: return net.kinds;
            case 4: return net.costOfAll();
            case 5: return timing.of(net).slack + PLUS;
            case 6: return timing.of(net).worst;
            case 7: return timing.of(net).wrongEnds;
            case 8: return choices.of(net).points.size;
            case 9: return widest() + PLUS;
            case 10: return findChange();
            case 11: return book.size;
            case 12: return book.wrongEntry(net.size, timing.of(net).time);
            case 13: return past.size;
            case 14: return draws.seed;
            default: return OUTSIDE;
        }
    }

    public int at(int v, int what) {
        if (!net.hasNode(v)) {
            return UNKNOWN;
        }
        if (!within(what, 0, 12)) {
            return OUTSIDE;
        }
        if (what <= 3) {
            return v == 0 ? NONE : ofWire(v, what);
        }
        if (what <= 6) {
            return net.isEnd(v) ? ofEnd(v, what) : NONE;
        }
        if (what == 7) {
            return net.placed[v];
        }
        return ofTiming(v, what);
    }

    public int kindAt(int k, int what) {
        if (!net.hasKind(k)) {
            return UNKNOWN;
        }
        switch (what) {
            case 0: return net.kindIn[k];
            case 1: return net.kindPull[k];
            case 2: return net.kindOwn[k];
            case 3: return net.kindCost[k];
            case 4: return net.kindTurns[k];
            default: return OUTSIDE;
        }
    }

    public int candidates(int v, int t) {
        if (!net.hasNode(v)) {
            return UNKNOWN;
        }
        if (!within(t, 0, 1)) {
            return OUTSIDE;
        }
        return choices.of(net).row(v, t).size;
    }

    public int candidate(int v, int t, int i, int what) {
        if (!net.hasNode(v)) {
            return UNKNOWN;
        }
        if (!within(t, 0, 1)) {
            return OUTSIDE;
        }
        Front front = choices.of(net).row(v, t);
        if (!within(i, 0, front.size - 1)) {
            return UNKNOWN;
        }
        switch (what) {
            case 0: return front.shows[i];
            case 1: return front.slack[i] + PLUS;
            case 2: return front.cost[i];
            default: return OUTSIDE;
        }
    }

    public int point(int i, int what) {
        Front points = choices.of(net).points;
        if (!within(i, 0, points.size - 1)) {
            return UNKNOWN;
        }
        switch (what) {
            case 0: return points.cost[i];
            case 1: return points.slack[i] + PLUS;
            default: return OUTSIDE;
        }
    }

    public int best(int cost) {
        if (cost < 0) {
            return OUTSIDE;
        }
        Front points = choices.of(net).points;
        int most = NONE;
        for (int i = 0; i < points.size && points.cost[i] <= cost; i++) {
            most = points.slack[i] + PLUS;
        }
        return most;
    }

    public int least(int s) {
        Front points = choices.of(net).points;
        for (int i = 0; i < points.size; i++) {
            if (points.slack[i] >= s) {
                return points.cost[i];
            }
        }
        return NONE;
    }

    public int would(int v, int k) {
        if (!net.hasNode(v) || !net.canBePlaced(k)) {
            return UNKNOWN;
        }
        if (v == 0) {
            return NOT;
        }
        trial.copyFrom(net);
        trial.placed[v] = k;
        return timing.of(trial).slack + PLUS;
    }

    // ---- deeds

    public int node(int above, int r, int c) {
        if (!net.hasNode(above)) {
            return UNKNOWN;
        }
        if (!within(r, 0, MOST_DIGIT) || !within(c, 0, MOST_DIGIT)) {
            return OUTSIDE;
        }
        if (!net.hasRoom()) {
            return FULL;
        }
        deedComes();
        return net.grow(above, r, c);
    }

    public int end(int v, int load, int need, int wants) {
        if (!net.hasNode(v)) {
            return UNKNOWN;
        }
        if (!within(load, 1, MOST_DIGIT) || !within(need, 0, MOST_NEED) || !within(wants, 0, 1)) {
            return OUTSIDE;
        }
        if (v == 0) {
            return NOT;
        }
        deedComes();
        net.tellEnd(v, load, need, wants);
        return net.isEnd(v) ? 1 : 0;
    }

    public int wire(int v, int r, int c, int w) {
        if (!net.hasNode(v)) {
            return UNKNOWN;
        }
        if (!within(r, 0, MOST_DIGIT) || !within(c, 0, MOST_DIGIT) || !within(w, 1, MOST_WIDTH)) {
            return OUTSIDE;
        }
        if (v == 0) {
            return NOT;
        }
        deedComes();
        net.wireR[v] = r;
        net.wireC[v] = c;
        net.width[v] = w;
        return timing.of(net).time[v];
    }

    public int pull(int p) {
        if (!within(p, 0, MOST_DIGIT)) {
            return OUTSIDE;
        }
        deedComes();
        int was = net.sourcePull;
        net.sourcePull = p;
        return was;
    }

    public int kind(int k, int in, int pull, int own, int cost, int turns) {
        if (!within(k, 1, MOST_KINDS)) {
            return UNKNOWN;
        }
        if (!within(in, 1, MOST_DIGIT) || !within(pull, 0, MOST_DIGIT) || !within(own, 0, MOST_OWN)
                || !within(cost, 0, MOST_COST) || !within(turns, 0, 1)) {
            return OUTSIDE;
        }
        deedComes();
        int was = net.hasKind(k) ? 1 : 0;
        net.kinds |= 1 << k;
        net.kindIn[k] = in;
        net.kindPull[k] = pull;
        net.kindOwn[k] = own;
        net.kindCost[k] = cost;
        net.kindTurns[k] = turns;
        return was;
    }

    public int drop(int k) {
        if (!net.hasKind(k)) {
            return UNKNOWN;
        }
        if (net.isPlaced(k)) {
            return NOT;
        }
        deedComes();
        net.kinds &= ~(1 << k);
        return Integer.bitCount(net.kinds);
    }

    public int place(int v, int k) {
        if (!net.hasNode(v) || !net.canBePlaced(k)) {
            return UNKNOWN;
        }
        if (v == 0) {
            return NOT;
        }
        deedComes();
        int was = net.placed[v];
        net.placed[v] = k;
        return was;
    }

    public int take() {
        if (net.size <= 1) {
            return NOT;
        }
        deedComes();
        net.size--;
        return net.size;
    }

    public int change() {
        int found = findChange();
        if (found == NONE) {
            return NOT;
        }
        deedComes();
        net.placed[found / 10] = found % 10;
        return timing.of(net).slack + PLUS;
    }

    public int drift(int n) {
        if (!within(n, 1, MOST_DRIFT)) {
            return OUTSIDE;
        }
        for (int i = 0; i < n && net.hasRoom(); i++) {
            deedComes();
            growByDraws();
        }
        return net.size;
    }

    public int undo(int n) {
        if (!within(n, 1, MOST_DEEDS)) {
            return OUTSIDE;
        }
        if (n > past.size) {
            return NOT;
        }
        past.goBackBy(n, net);
        choices.forget();
        return past.size;
    }

    // ---- the book

    public int write(int v, int time) {
        if (!net.hasNode(v)) {
            return UNKNOWN;
        }
        if (book.size >= MOST_ENTRIES) {
            return FULL;
        }
        book.add(v, time);
        return book.size;
    }

    public int tear() {
        int had = book.size;
        book.size = 0;
        return had;
    }

    // ---- images

    public int seed(int v) {
        if (v < 0) {
            return OUTSIDE;
        }
        int was = draws.seed;
        draws.seed = v;
        return was;
    }

    public int keep(int i) {
        if (!within(i, 0, MOST_IMAGES - 1)) {
            return UNKNOWN;
        }
        images[i].copyFrom(net);
        imageSeeds[i] = draws.seed;
        imageKept[i] = true;
        past.size = 0;
        return 1;
    }

    public int goBack(int i) {
        if (!within(i, 0, MOST_IMAGES - 1)) {
            return UNKNOWN;
        }
        if (!imageKept[i]) {
            return NOT;
        }
        net.copyFrom(images[i]);
        draws.seed = imageSeeds[i];
        past.size = 0;
        choices.forget();
        return 1;
    }

    // ---- within

    private static boolean within(int x, int lowest, int highest) {
        return x >= lowest && x <= highest;
    }

    /** Each deed passes here once, ahead of what it does and behind its refusals. */
    private void deedComes() {
        past.push(net);
        choices.forget();
    }

    private void growByDraws() {
        int above = draws.next(net.size);
        int r = draws.next(10);
        int c = draws.next(10);
        int load = draws.next(9) + 1;
        int need = draws.next(300);
        int wants = draws.next(2);
        int v = net.grow(above, r, c);
        net.tellEnd(v, load, need, wants);
    }

    private int ofWire(int v, int what) {
        switch (what) {
            case 0: return net.above[v];
            case 1: return net.wireR[v];
            case 2: return net.wireC[v];
            default: return net.width[v];
        }
    }

    private int ofEnd(int v, int what) {
        switch (what) {
            case 4: return net.load[v];
            case 5: return net.need[v];
            default: return net.wants[v];
        }
    }

    private int ofTiming(int v, int what) {
        timing.of(net);
        switch (what) {
            case 8: return timing.bears[v];
            case 9: return timing.shows[v];
            case 10: return timing.time[v];
            case 11: return net.isEnd(v) ? net.need[v] - timing.time[v] + PLUS : NONE;
            default: return timing.turned[v];
        }
    }

    private int widest() {
        trial.copyFrom(net);
        int most = timing.of(trial).slack;
        for (int wide = 0; wide < 1 << (net.size - 1); wide++) {
            for (int v = 1; v < net.size; v++) {
                trial.width[v] = 1 + (wide >> (v - 1) & 1);
            }
            most = Math.max(most, timing.of(trial).slack);
        }
        return most;
    }

    /** CHANGE, as told(10) tells it. NODES and KINDS come rising, so of like ones the first one stays. */
    private int findChange() {
        int wrongNow = timing.of(net).wrongEnds;
        int found = NONE;
        int foundSlack = 0;
        int foundCost = 0;
        trial.copyFrom(net);
        for (int v = 1; v < net.size; v++) {
            for (int k = 0; k <= MOST_KINDS; k++) {
                if (k == net.placed[v] || !net.canBePlaced(k)) {
                    continue;
                }
                trial.placed[v] = k;
                timing.of(trial);
                int cost = trial.costOfAll();
                boolean better = found == NONE || timing.slack > foundSlack
                        || timing.slack == foundSlack && cost < foundCost;
                if ((timing.wrongEnds & ~wrongNow) == 0 && better) {
                    found = 10 * v + k;
                    foundSlack = timing.slack;
                    foundCost = cost;
                }
            }
            trial.placed[v] = net.placed[v];
        }
        return found;
    }

    /** All of section 1. Row 0 of the KINDS stands for "none" and stays all 0. */
    private static final class Net {
        int size = 1;
        int sourcePull = 1;
        int kinds = 0;
        final int[] above = new int[MOST_NODES];
        final int[] wireR = new int[MOST_NODES];
        final int[] wireC = new int[MOST_NODES];
        final int[] width = new int[MOST_NODES];
        final int[] load = new int[MOST_NODES];
        final int[] need = new int[MOST_NODES];
        final int[] wants = new int[MOST_NODES];
        final int[] placed = new int[MOST_NODES];
        final int[] kindIn = new int[MOST_KINDS + 1];
        final int[] kindPull = new int[MOST_KINDS + 1];
        final int[] kindOwn = new int[MOST_KINDS + 1];
        final int[] kindCost = new int[MOST_KINDS + 1];
        final int[] kindTurns = new int[MOST_KINDS + 1];

        void copyFrom(Net other) {
            size = other.size;
            sourcePull = other.sourcePull;
            kinds = other.kinds;
            System.arraycopy(other.above, 0, above, 0, MOST_NODES);
            System.arraycopy(other.wireR, 0, wireR, 0, MOST_NODES);
            System.arraycopy(other.wireC, 0, wireC, 0, MOST_NODES);
            System.arraycopy(other.width, 0, width, 0, MOST_NODES);
            System.arraycopy(other.load, 0, load, 0, MOST_NODES);
            System.arraycopy(other.need, 0, need, 0, MOST_NODES);
            System.arraycopy(other.wants, 0, wants, 0, MOST_NODES);
            System.arraycopy(other.placed, 0, placed, 0, MOST_NODES);
            System.arraycopy(other.kindIn, 0, kindIn, 0, MOST_KINDS + 1);
            System.arraycopy(other.kindPull, 0, kindPull, 0, MOST_KINDS + 1);
            System.arraycopy(other.kindOwn, 0, kindOwn, 0, MOST_KINDS + 1);
            System.arraycopy(other.kindCost, 0, kindCost, 0, MOST_KINDS + 1);
            System.arraycopy(other.kindTurns, 0, kindTurns, 0, MOST_KINDS + 1);
        }

        boolean hasNode(int v) {
            return v >= 0 && v < size;
        }

        boolean hasKind(int k) {
            return k >= 1 && k <= MOST_KINDS && (kinds >> k & 1) == 1;
        }

        boolean canBePlaced(int k) {
            return k == 0 || hasKind(k);
        }

        boolean hasRoom() {
            return size < MOST_NODES;
        }

        int ends() {
            int all = 0;
            int aboveOthers = 0;
            for (int v = 1; v < size; v++) {
                all |= 1 << v;
                aboveOthers |= 1 << above[v];
            }
            return all & ~aboveOthers;
        }

        boolean isEnd(int v) {
            return (ends() >> v & 1) == 1;
        }

        boolean isPlaced(int k) {
            for (int v = 1; v < size; v++) {
                if (placed[v] == k) {
                    return true;
                }
            }
            return false;
        }

        int costOfAll() {
            int sum = 0;
            for (int v = 1; v < size; v++) {
                sum += kindCost[placed[v]];
            }
            return sum;
        }

        /** Only while hasRoom(). A NODE that was taken may have left its numbers: all are set anew. */
        int grow(int aboveIt, int r, int c) {
            int v = size;
            size++;
            above[v] = aboveIt;
            wireR[v] = r;
            wireC[v] = c;
            width[v] = 1;
            placed[v] = 0;
            tellEnd(v, 1, 100, 0);
            return v;
        }

        void tellEnd(int v, int itsLoad, int itsNeed, int itsWants) {
            load[v] = itsLoad;
            need[v] = itsNeed;
            wants[v] = itsWants;
        }

        /** What the WIRE of v takes, if what hangs on it SHOWS so much: R times C, and 2 / W times R times that. */
        int wireTime(int v, int shown) {
            int r = wireR[v];
            return r * wireC[v] + (width[v] == 1 ? 2 : 1) * r * shown;
        }
    }

    /** Section 2 for a Net: holds as long as that Net is not changed. */
    private static final class Timing {
        final int[] bears = new int[MOST_NODES];
        final int[] shows = new int[MOST_NODES];
        final int[] time = new int[MOST_NODES];
        final int[] turned = new int[MOST_NODES];
        int slack = NEVER;
        int worst = NONE;
        int wrongEnds = 0;

        /** This one, made anew for that Net. */
        Timing of(Net net) {
            int ends = net.ends();
            weigh(net, ends);
            run(net);
            judge(net, ends);
            return this;
        }

        // a NODE's ABOVE has a lesser number, so falling numbers meet what is below first
        private void weigh(Net net, int ends) {
            for (int v = 0; v < net.size; v++) {
                bears[v] = (ends >> v & 1) == 1 ? net.load[v] : 0;
            }
            for (int v = net.size - 1; v >= 1; v--) {
                int k = net.placed[v];
                shows[v] = k == 0 ? bears[v] : net.kindIn[k];
                bears[net.above[v]] += net.wireC[v] * net.width[v] + shows[v];
            }
            shows[0] = bears[0];
        }

        private void run(Net net) {
            time[0] = 2 * net.sourcePull * bears[0];
            turned[0] = 0;
            for (int v = 1; v < net.size; v++) {
                int k = net.placed[v];
                int up = net.above[v];
                time[v] = time[up] + net.wireTime(v, shows[v]) + net.kindOwn[k] + 2 * net.kindPull[k] * bears[v];
                turned[v] = turned[up] ^ net.kindTurns[k];
            }
        }

        private void judge(Net net, int ends) {
            slack = NEVER;
            worst = NONE;
            wrongEnds = 0;
            for (int v = 1; v < net.size; v++) {
                if ((ends >> v & 1) == 0) {
                    continue;
                }
                if (net.need[v] - time[v] < slack) {
                    slack = net.need[v] - time[v];
                    worst = v;
                }
                if (net.wants[v] != turned[v]) {
                    wrongEnds |= 1 << v;
                }
            }
        }
    }

    /** Triples of which none is BEATEN, each once, by what they SHOW, then by COST, rising. */
    private static final class Front {
        int size = 0;
        int[] shows = new int[FIRST_ROOM];
        int[] slack = new int[FIRST_ROOM];
        int[] cost = new int[FIRST_ROOM];

        void clear() {
            size = 0;
        }

        /** Only what stands at or ahead of its own place can beat a newcomer, only what stands behind is beaten. */
        void offer(int itShows, int itsSlack, int itCosts) {
            int spot = 0;
            while (spot < size && standsAhead(spot, itShows, itCosts)) {
                if (cost[spot] <= itCosts && slack[spot] >= itsSlack) {
                    return;
                }
                spot++;
            }
            if (spot < size && shows[spot] == itShows && cost[spot] == itCosts && slack[spot] >= itsSlack) {
                return;
            }
            dropBeaten(spot, itsSlack, itCosts);
            if (size < shows.length || widen()) {
                insert(spot, itShows, itsSlack, itCosts);
            }
        }

        void swapWith(Front other) {
            int itsSize = other.size;
            int[] itsShows = other.shows;
            int[] itsSlack = other.slack;
            int[] itsCost = other.cost;
            other.size = size;
            other.shows = shows;
            other.slack = slack;
            other.cost = cost;
            size = itsSize;
            shows = itsShows;
            slack = itsSlack;
            cost = itsCost;
        }

        private boolean standsAhead(int i, int itShows, int itCosts) {
            return shows[i] < itShows || shows[i] == itShows && cost[i] < itCosts;
        }

        private void dropBeaten(int from, int itsSlack, int itCosts) {
            int left = from;
            for (int i = from; i < size; i++) {
                if (cost[i] < itCosts || slack[i] > itsSlack) {
                    shows[left] = shows[i];
                    slack[left] = slack[i];
                    cost[left] = cost[i];
                    left++;
                }
            }
            size = left;
        }

        private void insert(int spot, int itShows, int itsSlack, int itCosts) {
            System.arraycopy(shows, spot, shows, spot + 1, size - spot);
            System.arraycopy(slack, spot, slack, spot + 1, size - spot);
            System.arraycopy(cost, spot, cost, spot + 1, size - spot);
            shows[spot] = itShows;
            slack[spot] = itsSlack;
            cost[spot] = itCosts;
            size++;
        }

        // few nets need more than the first room, and no net needs more than there are ways
        private boolean widen() {
            int room = 2 * shows.length;
            if (room > MOST_WAYS) {
                return false;
            }
            shows = Arrays.copyOf(shows, room);
            slack = Arrays.copyOf(slack, room);
            cost = Arrays.copyOf(cost, room);
            return true;
        }
    }

    /**
     * CANDIDATES and POINTS, made from the ENDS up. What is BEATEN below a NODE can be left out there at once: in its
     * stead the one that beats it gives no worse three numbers at every NODE above.
     */
    private static final class Choices {
        private final Front[] rows = new Front[2 * MOST_NODES];
        final Front points = new Front();
        // what can be had below the NODE that is looked at, by how it leaves that NODE: as it is, or turned
        private final Front plainBelow = new Front();
        private final Front turnedBelow = new Front();
        private final Front joined = new Front();
        private boolean fresh = false;

        Choices() {
            for (int i = 0; i < rows.length; i++) {
                rows[i] = new Front();
            }
        }

        void forget() {
            fresh = false;
        }

        /** The CANDIDATES of NODE v by t. */
        Front row(int v, int t) {
            return rows[2 * v + t];
        }

        /** This one, made anew if that Net may be another one now. */
        Choices of(Net net) {
            if (fresh) {
                return this;
            }
            int ends = net.ends();
            for (int v = net.size - 1; v >= 0; v--) {
                boolean isEnd = (ends >> v & 1) == 1;
                gather(net, v, 0, isEnd, plainBelow);
                gather(net, v, 1, isEnd, turnedBelow);
                if (v == 0) {
                    row(0, 0).swapWith(plainBelow);
                    row(0, 1).swapWith(turnedBelow);
                } else {
                    equip(net, v, 0);
                    equip(net, v, 1);
                }
            }
            pickPoints(net);
            fresh = true;
            return this;
        }

        /** What NODE v BEARS, the SLACK from there, the COST of all below it, if it is turned (t 1) behind v or not. */
        private void gather(Net net, int v, int t, boolean isEnd, Front sum) {
            sum.clear();
            if (isEnd) {
                if (net.wants[v] == t) {
                    sum.offer(net.load[v], net.need[v], 0);
                }
                return;
            }
            sum.offer(0, NEVER, 0);
            for (int u = v + 1; u < net.size; u++) {
                if (net.above[u] == v) {
                    join(net, u, sum, row(u, t));
                }
            }
        }

        private void join(Net net, int u, Front sum, Front branch) {
            joined.clear();
            int wireLoad = net.wireC[u] * net.width[u];
            for (int b = 0; b < branch.size; b++) {
                int branchLoad = wireLoad + branch.shows[b];
                int branchSlack = branch.slack[b] - net.wireTime(u, branch.shows[b]);
                for (int a = 0; a < sum.size; a++) {
                    joined.offer(sum.shows[a] + branchLoad, Math.min(sum.slack[a], branchSlack),
                            sum.cost[a] + branch.cost[b]);
                }
            }
            sum.swapWith(joined);
        }

        /** No REPEATER at v, or one of each KIND, in front of all that can be had below it. */
        private void equip(Net net, int v, int t) {
            Front front = row(v, t);
            front.clear();
            Front bare = t == 0 ? plainBelow : turnedBelow;
            for (int i = 0; i < bare.size; i++) {
                front.offer(bare.shows[i], bare.slack[i], bare.cost[i]);
            }
            for (int k = 1; k <= MOST_KINDS; k++) {
                if (net.hasKind(k)) {
                    Front behind = (t ^ net.kindTurns[k]) == 0 ? plainBelow : turnedBelow;
                    driveAll(net, k, behind, front);
                }
            }
        }

        private void driveAll(Net net, int k, Front behind, Front front) {
            for (int i = 0; i < behind.size; i++) {
                int itsSlack = behind.slack[i] - net.kindOwn[k] - 2 * net.kindPull[k] * behind.shows[i];
                front.offer(net.kindIn[k], itsSlack, behind.cost[i] + net.kindCost[k]);
            }
        }

        // a POINT has no load to be beaten by: all SHOW the same here
        private void pickPoints(Net net) {
            Front ways = row(0, 0);
            points.clear();
            for (int i = 0; i < ways.size; i++) {
                points.offer(0, ways.slack[i] - 2 * net.sourcePull * ways.shows[i], ways.cost[i]);
            }
        }
    }

    /** The Nets ahead of the latest deeds, in a ring: the oldest one gives way. */
    private static final class Past {
        private final Net[] ring = new Net[MOST_DEEDS];
        private int next = 0;
        int size = 0;

        Past() {
            for (int i = 0; i < MOST_DEEDS; i++) {
                ring[i] = new Net();
            }
        }

        void push(Net net) {
            ring[next].copyFrom(net);
            next = (next + 1) % MOST_DEEDS;
            size = Math.min(size + 1, MOST_DEEDS);
        }

        /** Only for n from 1 to size. */
        void goBackBy(int n, Net net) {
            next = (next + MOST_DEEDS - n) % MOST_DEEDS;
            size -= n;
            net.copyFrom(ring[next]);
        }
    }

    /** THE BOOK. */
    private static final class Book {
        private final int[] nodes = new int[MOST_ENTRIES];
        private final int[] times = new int[MOST_ENTRIES];
        int size = 0;

        /** Only while there is room. */
        void add(int v, int time) {
            nodes[size] = v;
            times[size] = time;
            size++;
        }

        int wrongEntry(int netSize, int[] timeNow) {
            for (int i = 0; i < size; i++) {
                int v = nodes[i];
                if (v >= netSize || timeNow[v] != times[i]) {
                    return i;
                }
            }
            return NONE;
        }
    }

    /** THE SEED and its DRAWS. */
    private static final class Draws {
        int seed = 0;

        int next(int n) {
            seed = (int) ((seed * 1103515245L + 12345L) & 0x7fffffffL);
            return n < 1 ? 0 : (seed / 65536) % n;
        }
    }
}
