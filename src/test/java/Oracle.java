import java.util.ArrayList;
import java.util.Comparator;
import java.util.List;
import java.util.TreeMap;
import java.util.TreeSet;

/**
 * The document once more, said as slowly and as near to its words as can be: every way to place REPEATERS is tried,
 * every NODE asks its ABOVE and its BELOW by recursion, every deed keeps a whole copy. It shares nothing with the class.
 */
final class Oracle {
    static final int NONE = -1, PLUS = 1000000, NEVER = 900000;
    static final int UNKNOWN = -1000000001, OUTSIDE = -1000000002, NOT = -1000000003, FULL = -1000000004;

    static final class Node implements Cloneable {
        int above = -1, r, c, w = 1, load = 1, need = 100, wants = 0, placed = 0;

        Node copy() {
            Node n = new Node();
            n.above = above; n.r = r; n.c = c; n.w = w; n.load = load; n.need = need; n.wants = wants; n.placed = placed;
            return n;
        }
    }

    record Kind(int in, int pull, int own, int cost, int turns) { }

    record Three(int shows, int slack, int cost) {
        boolean beats(Three o) {
            return shows <= o.shows && slack >= o.slack && cost <= o.cost && !equals(o);
        }
    }

    static final class State {
        int pull = 1;
        List<Node> nodes = new ArrayList<>();
        TreeMap<Integer, Kind> kinds = new TreeMap<>();

        State copy() {
            State s = new State();
            s.pull = pull;
            for (Node n : nodes) s.nodes.add(n.copy());
            s.kinds.putAll(kinds);
            return s;
        }

        List<Integer> below(int v) {
            List<Integer> l = new ArrayList<>();
            for (int u = 1; u < nodes.size(); u++) if (nodes.get(u).above == v) l.add(u);
            return l;
        }

        boolean isEnd(int v) { return v != 0 && below(v).isEmpty(); }

        int bears(int v) {
            int b = isEnd(v) ? nodes.get(v).load : 0;
            for (int u : below(v)) b += nodes.get(u).c * nodes.get(u).w + shows(u);
            return b;
        }

        int shows(int v) {
            int k = nodes.get(v).placed;
            return k == 0 ? bears(v) : kinds.get(k).in;
        }

        /** What the NODE itself adds when something comes to it. */
        int stay(int v) {
            int k = nodes.get(v).placed;
            return k == 0 ? 0 : kinds.get(k).own + 2 * kinds.get(k).pull * bears(v);
        }

        int time(int v) {
            Node n = nodes.get(v);
            if (v == 0) return 2 * pull * bears(0);
            return time(n.above) + n.r * n.c + 2 * n.r * shows(v) / n.w + stay(v);
        }

        int turned(int v) {
            if (v == 0) return 0;
            int k = nodes.get(v).placed;
            return (turned(nodes.get(v).above) + (k == 0 ? 0 : kinds.get(k).turns)) % 2;
        }

        int slack() {
            int s = NEVER;
            for (int v = 0; v < nodes.size(); v++) if (isEnd(v)) s = Math.min(s, nodes.get(v).need - time(v));
            return s;
        }

        int worst() {
            for (int v = 0; v < nodes.size(); v++) if (isEnd(v) && nodes.get(v).need - time(v) == slack()) return v;
            return NONE;
        }

        int wrongEnds() {
            int set = 0;
            for (int v = 0; v < nodes.size(); v++) if (isEnd(v) && nodes.get(v).wants != turned(v)) set |= 1 << v;
            return set;
        }

        int cost() {
            int c = 0;
            for (Node n : nodes) if (n.placed != 0) c += kinds.get(n.placed).cost;
            return c;
        }

        boolean isUnder(int u, int v) {
            while (u != v && u > 0) u = nodes.get(u).above;
            return u == v;
        }

        List<Integer> choices() {
            List<Integer> l = new ArrayList<>();
            l.add(0);
            l.addAll(kinds.keySet());
            return l;
        }

        void ways(List<Integer> spots, int i, List<State> out) {
            if (i == spots.size()) { out.add(copy()); return; }
            int was = nodes.get(spots.get(i)).placed;
            for (int k : choices()) {
                nodes.get(spots.get(i)).placed = k;
                ways(spots, i + 1, out);
            }
            nodes.get(spots.get(i)).placed = was;
        }

        List<State> ways(int v) {
            List<Integer> spots = new ArrayList<>();
            for (int u = 1; u < nodes.size(); u++) if (isUnder(u, v)) spots.add(u);
            List<State> out = new ArrayList<>();
            ways(spots, 0, out);
            return out;
        }

        /** The one way that stands now, of v and all below it; null: an END there is WRONG. */
        Three three(int v, int t) {
            int slack = NEVER, cost = 0;
            // what came to v counts from 0, so that what comes to it really (TIME less its own stay) is taken off
            int from = v == 0 ? time(0) : time(v) - stay(v);
            int k = nodes.get(v).placed;
            int turnedAhead = v == 0 ? 0 : (turned(v) + (k == 0 ? 0 : kinds.get(k).turns)) % 2;
            for (int u = 1; u < nodes.size(); u++) {
                if (!isUnder(u, v)) continue;
                if (nodes.get(u).placed != 0) cost += kinds.get(nodes.get(u).placed).cost;
                if (!isEnd(u)) continue;
                if ((turned(u) + turnedAhead + t) % 2 != nodes.get(u).wants) return null;
                slack = Math.min(slack, nodes.get(u).need - (time(u) - from));
            }
            return new Three(shows(v), slack, cost);
        }

        List<Three> candidates(int v, int t) {
            TreeSet<Three> all = new TreeSet<>(Comparator.comparingInt(Three::shows).thenComparingInt(Three::cost)
                    .thenComparingInt(Three::slack));
            for (State s : ways(v)) {
                Three x = s.three(v, t);
                if (x != null) all.add(x);
            }
            List<Three> left = new ArrayList<>();
            for (Three x : all) if (all.stream().noneMatch(y -> y.beats(x))) left.add(x);
            return left;
        }

        List<int[]> points() {
            TreeMap<Integer, Integer> mostFor = new TreeMap<>();
            for (State s : ways(0)) if (s.wrongEnds() == 0) mostFor.merge(s.cost(), s.slack(), Math::max);
            List<int[]> l = new ArrayList<>();
            for (var e : mostFor.entrySet()) {
                if (l.isEmpty() || l.get(l.size() - 1)[1] < e.getValue()) l.add(new int[] {e.getKey(), e.getValue()});
            }
            return l;
        }

        int widest() {
            int most = Integer.MIN_VALUE;
            for (int bits = 0; bits < 64; bits++) {
                State s = copy();
                for (int v = 0; v < nodes.size(); v++) s.nodes.get(v).w = 1 + (bits >> v & 1);
                most = Math.max(most, s.slack());
            }
            return most;
        }

        int change() {
            List<int[]> all = new ArrayList<>();
            for (int v = 1; v < nodes.size(); v++) {
                for (int k : choices()) {
                    if (k == nodes.get(v).placed) continue;
                    State s = copy();
                    s.nodes.get(v).placed = k;
                    if ((s.wrongEnds() | wrongEnds()) == wrongEnds()) all.add(new int[] {-s.slack(), s.cost(), v, k});
                }
            }
            all.sort(Comparator.<int[]>comparingInt(a -> a[0]).thenComparingInt(a -> a[1]).thenComparingInt(a -> a[2])
                    .thenComparingInt(a -> a[3]));
            return all.isEmpty() ? NONE : 10 * all.get(0)[2] + all.get(0)[3];
        }
    }

    State now = new State();
    long seed = 0;
    List<State> past = new ArrayList<>();
    List<int[]> book = new ArrayList<>();
    State[] images = new State[2];
    long[] imageSeeds = new long[2];

    Oracle() { now.nodes.add(new Node()); }

    boolean knows(int v) { return v >= 0 && v < now.nodes.size(); }
    static boolean out(int x, int a, int b) { return x < a || x > b; }
    boolean noKind(int k) { return k != 0 && !now.kinds.containsKey(k); }

    void deed() {
        past.add(now.copy());
        if (past.size() > 16) past.remove(0);
    }

    int told(int what) {
        int ends = 0, kinds = 0;
        for (int v = 0; v < now.nodes.size(); v++) if (now.isEnd(v)) ends |= 1 << v;
        for (int k : now.kinds.keySet()) kinds |= 1 << k;
        if (out(what, 0, 14)) return OUTSIDE;
        return switch (what) {
            case 0 -> now.nodes.size();
            case 1 -> ends;
            case 2 -> now.pull;
            case 3 -> kinds;
            case 4 -> now.cost();
            case 5 -> now.slack() + PLUS;
            case 6 -> now.worst();
            case 7 -> now.wrongEnds();
            case 8 -> now.points().size();
            case 9 -> now.widest() + PLUS;
            case 10 -> now.change();
            case 11 -> book.size();
            case 12 -> wrongEntry();
            case 13 -> past.size();
            default -> (int) seed;
        };
    }

    int wrongEntry() {
        for (int i = 0; i < book.size(); i++) {
            int[] e = book.get(i);
            if (!knows(e[0]) || now.time(e[0]) != e[1]) return i;
        }
        return NONE;
    }

    int at(int v, int what) {
        if (!knows(v)) return UNKNOWN;
        if (out(what, 0, 12)) return OUTSIDE;
        Node n = now.nodes.get(v);
        boolean end = now.isEnd(v);
        return switch (what) {
            case 0 -> v == 0 ? NONE : n.above;
            case 1 -> v == 0 ? NONE : n.r;
            case 2 -> v == 0 ? NONE : n.c;
            case 3 -> v == 0 ? NONE : n.w;
            case 4 -> end ? n.load : NONE;
            case 5 -> end ? n.need : NONE;
            case 6 -> end ? n.wants : NONE;
            case 7 -> n.placed;
            case 8 -> now.bears(v);
            case 9 -> now.shows(v);
            case 10 -> now.time(v);
            case 11 -> end ? n.need - now.time(v) + PLUS : NONE;
            default -> now.turned(v);
        };
    }

    int kindAt(int k, int what) {
        Kind x = now.kinds.get(k);
        if (x == null) return UNKNOWN;
        return switch (what) {
            case 0 -> x.in;
            case 1 -> x.pull;
            case 2 -> x.own;
            case 3 -> x.cost;
            case 4 -> x.turns;
            default -> OUTSIDE;
        };
    }

    int candidates(int v, int t) {
        if (!knows(v)) return UNKNOWN;
        return out(t, 0, 1) ? OUTSIDE : now.candidates(v, t).size();
    }

    int candidate(int v, int t, int i, int what) {
        if (!knows(v)) return UNKNOWN;
        if (out(t, 0, 1)) return OUTSIDE;
        List<Three> l = now.candidates(v, t);
        if (out(i, 0, l.size() - 1)) return UNKNOWN;
        if (out(what, 0, 2)) return OUTSIDE;
        Three x = l.get(i);
        return what == 0 ? x.shows : what == 1 ? x.slack + PLUS : x.cost;
    }

    int point(int i, int what) {
        List<int[]> l = now.points();
        if (out(i, 0, l.size() - 1)) return UNKNOWN;
        if (out(what, 0, 1)) return OUTSIDE;
        return what == 0 ? l.get(i)[0] : l.get(i)[1] + PLUS;
    }

    int best(int cost) {
        if (cost < 0) return OUTSIDE;
        int most = NONE;
        for (State s : now.ways(0)) if (s.wrongEnds() == 0 && s.cost() <= cost) most = Math.max(most, s.slack() + PLUS);
        return most;
    }

    int least(int s) {
        int low = NONE;
        for (State x : now.ways(0)) {
            if (x.wrongEnds() == 0 && x.slack() >= s && (low == NONE || x.cost() < low)) low = x.cost();
        }
        return low;
    }

    int would(int v, int k) {
        if (!knows(v) || noKind(k)) return UNKNOWN;
        if (v == 0) return NOT;
        State s = now.copy();
        s.nodes.get(v).placed = k;
        return s.slack() + PLUS;
    }

    int node(int above, int r, int c) {
        if (!knows(above)) return UNKNOWN;
        if (out(r, 0, 9) || out(c, 0, 9)) return OUTSIDE;
        if (now.nodes.size() == 6) return FULL;
        deed();
        Node n = new Node();
        n.above = above; n.r = r; n.c = c;
        now.nodes.add(n);
        return now.nodes.size() - 1;
    }

    int end(int v, int load, int need, int wants) {
        if (!knows(v)) return UNKNOWN;
        if (out(load, 1, 9) || out(need, 0, 9999) || out(wants, 0, 1)) return OUTSIDE;
        if (v == 0) return NOT;
        deed();
        Node n = now.nodes.get(v);
        n.load = load; n.need = need; n.wants = wants;
        return now.isEnd(v) ? 1 : 0;
    }

    int wire(int v, int r, int c, int w) {
        if (!knows(v)) return UNKNOWN;
        if (out(r, 0, 9) || out(c, 0, 9) || out(w, 1, 2)) return OUTSIDE;
        if (v == 0) return NOT;
        deed();
        Node n = now.nodes.get(v);
        n.r = r; n.c = c; n.w = w;
        return now.time(v);
    }

    int pull(int p) {
        if (out(p, 0, 9)) return OUTSIDE;
        deed();
        int was = now.pull;
        now.pull = p;
        return was;
    }

    int kind(int k, int in, int pull, int own, int cost, int turns) {
        if (out(k, 1, 3)) return UNKNOWN;
        if (out(in, 1, 9) || out(pull, 0, 9) || out(own, 0, 99) || out(cost, 0, 99) || out(turns, 0, 1)) return OUTSIDE;
        deed();
        return now.kinds.put(k, new Kind(in, pull, own, cost, turns)) == null ? 0 : 1;
    }

    int drop(int k) {
        if (!now.kinds.containsKey(k)) return UNKNOWN;
        for (Node n : now.nodes) if (n.placed == k) return NOT;
        deed();
        now.kinds.remove(k);
        return now.kinds.size();
    }

    int place(int v, int k) {
        if (!knows(v) || noKind(k)) return UNKNOWN;
        if (v == 0) return NOT;
        deed();
        int was = now.nodes.get(v).placed;
        now.nodes.get(v).placed = k;
        return was;
    }

    int take() {
        if (now.nodes.size() == 1) return NOT;
        deed();
        now.nodes.remove(now.nodes.size() - 1);
        return now.nodes.size();
    }

    int change() {
        int ch = now.change();
        if (ch == NONE) return NOT;
        deed();
        now.nodes.get(ch / 10).placed = ch % 10;
        return now.slack() + PLUS;
    }

    int draw(int n) {
        seed = (seed * 1103515245L + 12345L) % (1L << 31);
        return (int) (seed / 65536 % n);
    }

    int drift(int n) {
        if (out(n, 1, 6)) return OUTSIDE;
        for (int i = 0; i < n; i++) {
            if (now.nodes.size() == 6) break;
            deed();
            Node x = new Node();
            x.above = draw(now.nodes.size());
            x.r = draw(10);
            x.c = draw(10);
            x.load = 1 + draw(9);
            x.need = draw(300);
            x.wants = draw(2);
            now.nodes.add(x);
        }
        return now.nodes.size();
    }

    int undo(int n) {
        if (out(n, 1, 16)) return OUTSIDE;
        if (n > past.size()) return NOT;
        for (int i = 0; i < n; i++) now = past.remove(past.size() - 1);
        return past.size();
    }

    int write(int v, int time) {
        if (!knows(v)) return UNKNOWN;
        if (book.size() == 20) return FULL;
        book.add(new int[] {v, time});
        return book.size();
    }

    int tear() {
        int had = book.size();
        book.clear();
        return had;
    }

    int seed(int v) {
        if (v < 0) return OUTSIDE;
        int was = (int) seed;
        seed = v;
        return was;
    }

    int keep(int i) {
        if (out(i, 0, 1)) return UNKNOWN;
        images[i] = now.copy();
        imageSeeds[i] = seed;
        past.clear();
        return 1;
    }

    int goBack(int i) {
        if (out(i, 0, 1)) return UNKNOWN;
        if (images[i] == null) return NOT;
        now = images[i].copy();
        seed = imageSeeds[i];
        past.clear();
        return 1;
    }
}
