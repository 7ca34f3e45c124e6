import java.util.function.IntSupplier;
import java.util.function.IntUnaryOperator;

/** What the tests with answers worked out by hand share: the count, the comparisons, and a few nets. */
abstract class Sheet {
    static final int NONE = -1;
    static final int PLUS = 1000000;
    static final int NEVER = 900000;
    static final int UNKNOWN = -1000000001;
    static final int OUTSIDE = -1000000002;
    static final int NOT = -1000000003;
    static final int FULL = -1000000004;
    static final int MIN = Integer.MIN_VALUE;
    static final int MAX = Integer.MAX_VALUE;

    /** What is looked at now: a promise, or a sentence of the document. */
    static String about = "";
    private static int sentences = 0;
    private static int passed = 0;
    private static int failed = 0;

    /** One sentence of the document (or the part of it that names an edge), with a test of its own. */
    static void sentence(String words, Runnable test) {
        about = words;
        sentences++;
        int before = passed + failed;
        test.run();
        if (passed + failed == before) fail("nothing was looked at");
    }

    static void finish(String name) {
        String heard = sentences == 0 ? "" : sentences + " sentences, ";
        System.out.println(name + ": " + heard + passed + " passed, " + failed + " failed");
        if (failed != 0) System.exit(1);
    }

    private static void fail(String what) {
        failed++;
        System.out.println(about + ": " + what);
    }

    static void due(String call, int got, int want) {
        if (got == want) {
            passed++;
        } else {
            fail(call + " answered " + got + ", due is " + want);
        }
    }

    static void same(String call, String got, String want) {
        if (got.equals(want)) {
            passed++;
        } else {
            fail(call + " left\n  " + got + "\n  due is\n  " + want);
        }
    }

    /** The least and the greatest are taken and told again; one beyond either is OUTSIDE, and leaves what was. */
    static void bounds(String name, int least, int most, IntUnaryOperator tell, IntSupplier read) {
        for (int n : new int[] {least, most}) {
            if (tell.applyAsInt(n) < NONE) fail(name + " " + n + " was refused");
            due(name + ", told to be " + n, read.getAsInt(), n);
        }
        for (int n : new int[] {least - 1, most + 1, MIN, MAX}) {
            due(name + " " + n, tell.applyAsInt(n), OUTSIDE);
            due(name + " behind " + n, read.getAsInt(), most);
        }
    }

    static void toldAll(RepeaterWires x, int... want) {
        for (int what = 0; what < want.length; what++) due("told(" + what + ")", x.told(what), want[what]);
    }

    static void atAll(RepeaterWires x, int v, int... want) {
        for (int what = 0; what < want.length; what++) due("at(" + v + ", " + what + ")", x.at(v, what), want[what]);
    }

    static void kindIs(RepeaterWires x, int k, int... want) {
        for (int what = 0; what < want.length; what++) {
            due("kindAt(" + k + ", " + what + ")", x.kindAt(k, what), want[what]);
        }
    }

    /** Triples in their order: what is shown, SLACK without PLUS, COST. */
    static void rowIs(RepeaterWires x, int v, int t, int... want) {
        String row = "(" + v + ", " + t;
        due("candidates" + row + ")", x.candidates(v, t), want.length / 3);
        for (int j = 0; j < want.length; j++) {
            int plus = j % 3 == 1 ? PLUS : 0;
            due("candidate" + row + ", " + j / 3 + ", " + j % 3 + ")", x.candidate(v, t, j / 3, j % 3), want[j] + plus);
        }
        due("candidate" + row + ", behind the last)", x.candidate(v, t, want.length / 3, 0), UNKNOWN);
        due("candidate" + row + ", -1)", x.candidate(v, t, -1, 0), UNKNOWN);
    }

    /** Pairs in their order: COST, SLACK without PLUS. */
    static void pointsAre(RepeaterWires x, int... want) {
        due("told(8)", x.told(8), want.length / 2);
        for (int i = 0; i < want.length / 2; i++) {
            due("point(" + i + ", 0)", x.point(i, 0), want[2 * i]);
            due("point(" + i + ", 1)", x.point(i, 1), want[2 * i + 1] + PLUS);
        }
        due("point(behind the last, 0)", x.point(want.length / 2, 0), UNKNOWN);
        due("point(behind the last, 1)", x.point(want.length / 2, 1), UNKNOWN);
    }

    /** A NODE BY DRAWS that is an END: ABOVE, R, C, LOAD, NEED, WANTS; its WIDTH is 1, nothing is PLACED. */
    static void drawn(RepeaterWires x, int v, int above, int r, int c, int load, int need, int wants) {
        atAll(x, v, above, r, c, 1, load, need, wants, 0);
    }

    /** All that told(), at() and kindAt() tell. */
    static String picture(RepeaterWires x) {
        StringBuilder s = new StringBuilder();
        tellRow(s, 14, x::told);
        for (int v = 0; v < 6; v++) {
            int node = v;
            tellRow(s, 12, what -> x.at(node, what));
        }
        for (int k = 0; k <= 4; k++) {
            int kind = k;
            tellRow(s, 4, what -> x.kindAt(kind, what));
        }
        return s.toString();
    }

    /** All of section 1, by few calls: an object has 512 of them. */
    static String section1(RepeaterWires x) {
        StringBuilder s = new StringBuilder();
        tellRow(s, 4, x::told);
        for (int v = 0; v < 6; v++) {
            int node = v;
            tellRow(s, 7, what -> x.at(node, what));
        }
        for (int k = 1; k <= 3; k++) {
            int kind = k;
            tellRow(s, 4, what -> x.kindAt(kind, what));
        }
        return s.toString();
    }

    private static void tellRow(StringBuilder s, int last, IntUnaryOperator ask) {
        for (int what = 0; what <= last; what++) s.append(ask.applyAsInt(what)).append(' ');
    }

    /**
     * SOURCE - 1 - { 2, 3 }: END 2 as it is, END 3 turned; KIND 1 leaves things as they are, KIND 2 turns them.
     * BEARS 13, 10, 4, 2; TIME 26, 72, 84, 92. Seven deeds.
     */
    static RepeaterWires branched() {
        RepeaterWires x = new RepeaterWires();
        x.node(0, 2, 3);
        x.node(1, 1, 4);
        x.node(1, 5, 0);
        x.end(2, 4, 50, 0);
        x.end(3, 2, 60, 1);
        x.kind(1, 2, 1, 3, 7, 0);
        x.kind(2, 1, 2, 5, 4, 1);
        return x;
    }

    /** Two ENDS like each other, right at the SOURCE, all TIMES 0, whatever is placed; three KINDS that do nothing. */
    static RepeaterWires twins(int cost1, int cost2, int cost3) {
        RepeaterWires x = new RepeaterWires();
        x.pull(0);
        x.node(0, 0, 0);
        x.node(0, 0, 0);
        x.kind(1, 1, 0, 0, cost1, 0);
        x.kind(2, 1, 0, 0, cost2, 0);
        x.kind(3, 1, 0, 0, cost3, 0);
        return x;
    }

    /** So many NODES right BELOW the SOURCE, all with the same WIRE. */
    static RepeaterWires star(int ends, int r, int c) {
        RepeaterWires x = new RepeaterWires();
        for (int v = 1; v <= ends; v++) x.node(0, r, c);
        return x;
    }

    /** So many NODES, each BELOW the one ahead of it, all with the same WIRE. */
    static RepeaterWires chain(int nodes, int r, int c) {
        RepeaterWires x = new RepeaterWires();
        for (int v = 1; v <= nodes; v++) x.node(v - 1, r, c);
        return x;
    }
}
