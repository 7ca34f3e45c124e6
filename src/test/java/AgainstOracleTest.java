import java.util.Random;

/** Runs by draws, each call asked of the class and of the Oracle; the draws are fixed, so each run is the same each time. */
public final class AgainstOracleTest {
    // what an object answers beyond so many calls is free
    private static final int MOST_CALLS = 512;
    // deeds that make a full net
    private static final int NET_CALLS = 19;

    private static int passed = 0;
    private static int failed = 0;
    private static int calls = 0;

    public static void main(String[] args) {
        int runs = args.length > 0 ? Integer.parseInt(args[0]) : 40;
        int first = args.length > 1 ? Integer.parseInt(args[1]) : 1;
        for (int run = first; run < first + runs; run++) {
            oneRun(run);
            if (failed > 10) break;
        }
        for (int net = first; net < first + runs && failed <= 10; net++) {
            oneFullNet(net);
        }
        System.out.println("AgainstOracleTest: " + passed + " passed, " + failed + " failed");
        if (failed != 0) System.exit(1);
    }

    private static void oneRun(int run) {
        Random dice = new Random(run);
        RepeaterWires x = new RepeaterWires();
        Oracle y = new Oracle();
        // now and then a wrong number; some runs have many, some none at all
        int wrongs = run % 4 == 0 ? 0 : run % 4 == 1 ? 6 : 40;
        // few nodes in some runs: those have room for more calls in the same time
        int most = run % 3 == 0 ? 6 : 4;
        calls = 0;
        while (calls < MOST_CALLS) {
            calls++;
            String asked = ask(x, y, dice, wrongs, most);
            if (asked != null) {
                failed++;
                System.out.println("run " + run + ", call " + calls + ": " + asked);
                return;
            }
            passed++;
        }
    }

    /** Six NODES, three KINDS: all that can be had is compared as a whole, each row of it with an object of its own. */
    private static void oneFullNet(int net) {
        String wrong = null;
        for (int v = 0; v < 6 && wrong == null; v++) {
            for (int t = 0; t < 2 && wrong == null; t++) {
                RepeaterWires x = new RepeaterWires();
                Oracle y = new Oracle();
                tellFullNet(net, x, y);
                wrong = sameRow(x, y, v, t);
            }
        }
        RepeaterWires x = new RepeaterWires();
        Oracle y = new Oracle();
        tellFullNet(net, x, y);
        for (int what = 0; what <= 14 && wrong == null; what++) {
            wrong = tell("told(" + what + ")", x.told(what), y.told(what));
        }
        if (wrong == null) wrong = samePoints(x, y);
        if (wrong == null) {
            passed++;
        } else {
            failed++;
            System.out.println("full net " + net + ": " + wrong);
        }
    }

    private static void tellFullNet(int net, RepeaterWires x, Oracle y) {
        Random d = new Random(net * 7919L);
        x.pull(net % 10);
        y.pull(net % 10);
        boolean turning = net % 3 != 0;
        for (int v = 1; v < 6; v++) {
            // a chain, a star, or by draws
            int above = net % 5 == 0 ? v - 1 : net % 5 == 1 ? 0 : d.nextInt(v);
            int r = d.nextInt(10), c = d.nextInt(10), width = 1 + d.nextInt(2);
            x.node(above, r, c);
            y.node(above, r, c);
            x.wire(v, r, c, width);
            y.wire(v, r, c, width);
            int load = 1 + d.nextInt(9), need = d.nextInt(600), wants = turning ? d.nextInt(2) : 0;
            x.end(v, load, need, wants);
            y.end(v, load, need, wants);
        }
        for (int k = 1; k <= 3; k++) {
            int in = 1 + d.nextInt(9), p = d.nextInt(10), own = d.nextInt(net % 2 == 0 ? 100 : 10);
            int cost = d.nextInt(net % 4 == 0 ? 5 : 100), turns = turning ? d.nextInt(2) : 0;
            x.kind(k, in, p, own, cost, turns);
            y.kind(k, in, p, own, cost, turns);
        }
        calls = NET_CALLS;
    }

    private static String samePoints(RepeaterWires x, Oracle y) {
        java.util.List<int[]> points = y.now.points();
        for (int i = 0; i < points.size(); i++) {
            int cost = points.get(i)[0], slack = points.get(i)[1];
            boolean same = x.point(i, 0) == cost && x.point(i, 1) == slack + Oracle.PLUS;
            if (!same) return "point(" + i + ", ..) is not " + cost + ", " + slack;
            if (x.best(cost) != slack + Oracle.PLUS) return "best(" + cost + ")";
            if (x.least(slack) != cost) return "least(" + slack + ")";
        }
        return tell("told(8)", x.told(8), points.size());
    }

    private static int number(Random dice, int wrongs, int low, int high) {
        if (wrongs > 0 && dice.nextInt(wrongs) == 0) {
            int[] odd = {low - 1, high + 1, -1, 0, Integer.MIN_VALUE, Integer.MAX_VALUE, -7, 99999};
            return odd[dice.nextInt(odd.length)];
        }
        int roll = dice.nextInt(8);
        return roll == 0 ? low : roll == 1 ? high : low + dice.nextInt(high - low + 1);
    }

    private static String tell(String call, int got, int want) {
        return got == want ? null : call + " answered " + got + ", due is " + want;
    }

    private static String ask(RepeaterWires x, Oracle y, Random d, int w, int most) {
        int n = y.now.nodes.size();
        int v = number(d, w, 0, n - 1);
        int k = number(d, w, 0, 3);
        int t = number(d, w, 0, 1);
        switch (d.nextInt(34)) {
            case 0: case 1: case 2: case 3: {
                int what = number(d, w, 0, 14);
                return tell("told(" + what + ")", x.told(what), y.told(what));
            }
            case 4: case 5: {
                int what = number(d, w, 0, 12);
                return tell("at(" + v + ", " + what + ")", x.at(v, what), y.at(v, what));
            }
            case 6: {
                int what = number(d, w, 0, 4);
                return tell("kindAt(" + k + ", " + what + ")", x.kindAt(k, what), y.kindAt(k, what));
            }
            case 7:
                return tell("candidates(" + v + ", " + t + ")", x.candidates(v, t), y.candidates(v, t));
            case 8: case 9:
                return askCandidate(x, y, d, w, v, t);
            case 10: {
                int i = number(d, w, 0, 6), what = number(d, w, 0, 1);
                return tell("point(" + i + ", " + what + ")", x.point(i, what), y.point(i, what));
            }
            case 11: {
                int cost = number(d, w, 0, 300);
                return tell("best(" + cost + ")", x.best(cost), y.best(cost));
            }
            case 12: {
                int s = number(d, w, -900, 200);
                return tell("least(" + s + ")", x.least(s), y.least(s));
            }
            case 13:
                return tell("would(" + v + ", " + k + ")", x.would(v, k), y.would(v, k));
            default:
                return act(x, y, d, w, most, v, k);
        }
    }

    /** All numbers of all CANDIDATES at once, so that a whole row is compared, not one number of it. */
    private static String askCandidate(RepeaterWires x, Oracle y, Random d, int w, int v, int t) {
        int i = number(d, w, 0, 6), what = number(d, w, 0, 2);
        String call = "candidate(" + v + ", " + t + ", " + i + ", " + what + ")";
        String wrong = tell(call, x.candidate(v, t, i, what), y.candidate(v, t, i, what));
        if (wrong != null || !y.knows(v) || t < 0 || t > 1) return wrong;
        return sameRow(x, y, v, t);
    }

    private static String sameRow(RepeaterWires x, Oracle y, int v, int t) {
        java.util.List<Oracle.Three> all = y.now.candidates(v, t);
        calls += 3 * all.size() + 1;
        if (calls > MOST_CALLS) return null;
        for (int j = 0; j < all.size(); j++) {
            Oracle.Three three = all.get(j);
            boolean same = x.candidate(v, t, j, 0) == three.shows() && x.candidate(v, t, j, 2) == three.cost()
                    && x.candidate(v, t, j, 1) == three.slack() + Oracle.PLUS;
            if (!same) return "candidate(" + v + ", " + t + ", " + j + ", ..) is not " + three;
        }
        return tell("candidates(" + v + ", " + t + ")", x.candidates(v, t), all.size());
    }

    private static String act(RepeaterWires x, Oracle y, Random d, int w, int most, int v, int k) {
        switch (d.nextInt(24)) {
            case 0: case 1: case 2: case 3: {
                if (y.now.nodes.size() >= most && d.nextInt(12) != 0) return tell("take()", x.take(), y.take());
                int r = number(d, w, 0, 9), c = number(d, w, 0, 9);
                return tell("node(" + v + ", " + r + ", " + c + ")", x.node(v, r, c), y.node(v, r, c));
            }
            case 4: case 5: case 6: {
                int load = number(d, w, 1, 9), need = number(d, w, 0, d.nextInt(9) == 0 ? 9999 : 400), wants = number(d, w, 0, 1);
                return tell("end(" + v + ", " + load + ", " + need + ", " + wants + ")", x.end(v, load, need, wants), y.end(v, load, need, wants));
            }
            case 7: case 8: {
                int r = number(d, w, 0, 9), c = number(d, w, 0, 9), width = number(d, w, 1, 2);
                return tell("wire(" + v + ", " + r + ", " + c + ", " + width + ")", x.wire(v, r, c, width), y.wire(v, r, c, width));
            }
            case 9: {
                int p = number(d, w, 0, 9);
                return tell("pull(" + p + ")", x.pull(p), y.pull(p));
            }
            case 10: case 11: case 12: {
                int in = number(d, w, 1, 9), p = number(d, w, 0, 9), own = number(d, w, 0, d.nextInt(3) == 0 ? 99 : 9);
                int cost = number(d, w, 0, d.nextInt(2) == 0 ? 99 : 5), turns = number(d, w, 0, 1);
                return tell("kind(" + k + ", " + in + ", " + p + ", " + own + ", " + cost + ", " + turns + ")",
                        x.kind(k, in, p, own, cost, turns), y.kind(k, in, p, own, cost, turns));
            }
            case 13:
                return tell("drop(" + k + ")", x.drop(k), y.drop(k));
            case 14: case 15: case 16:
                return tell("place(" + v + ", " + k + ")", x.place(v, k), y.place(v, k));
            case 17:
                return d.nextInt(3) != 0 ? null : tell("take()", x.take(), y.take());
            case 18:
                return tell("change()", x.change(), y.change());
            case 19: {
                int n = number(d, w, 1, Math.max(1, most - 3));
                return tell("drift(" + n + ")", x.drift(n), y.drift(n));
            }
            case 20: {
                int n = number(d, w, 1, d.nextInt(3) == 0 ? 16 : 3);
                return tell("undo(" + n + ")", x.undo(n), y.undo(n));
            }
            case 21: {
                int time = d.nextInt(8) != 0 && y.knows(v) ? y.now.time(v) : number(d, w, 0, 300);
                if (d.nextInt(25) == 0) return tell("tear()", x.tear(), y.tear());
                return tell("write(" + v + ", " + time + ")", x.write(v, time), y.write(v, time));
            }
            case 22: {
                int s = d.nextInt();
                return tell("seed(" + s + ")", x.seed(s), y.seed(s));
            }
            default: {
                int i = number(d, w, 0, 1);
                if (d.nextInt(2) == 0) return tell("keep(" + i + ")", x.keep(i), y.keep(i));
                return tell("goBack(" + i + ")", x.goBack(i), y.goBack(i));
            }
        }
    }
}
