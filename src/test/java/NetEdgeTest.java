/** Sections 1 and 2 of "Terms": NODES, WIRES, ENDS, KINDS, and what comes where and when, each sentence at its edges. */
public final class NetEdgeTest extends Sheet {
    public static void main(String[] args) {
        section1Nodes();
        section1Repeaters();
        section2();
        finish("NetEdgeTest");
    }

    private static void section1Nodes() {
        sentence("What has a number has it from 0 on", NetEdgeTest::numbersFromNought);
        sentence("A SET is a whole number, bit k for k", NetEdgeTest::setsBitByBit);
        sentence("NODES 0 to N less 1 (N 1 .. 6; 1 at first)", NetEdgeTest::oneToSixNodes);
        sentence("the SOURCE has a PULL (0 .. 9; 1 at first)", NetEdgeTest::pullOfTheSource);
        sentence("BELOW another one of lesser number, its ABOVE", NetEdgeTest::aboveIsLesser);
        sentence("a WIRE of R (0 .. 9), as the NODE comes", NetEdgeTest::rOfNewNodes);
        sentence("a WIRE of C (0 .. 9), as the NODE comes", NetEdgeTest::cOfNewNodes);
        sentence("a WIRE of R (0 .. 9)", NetEdgeTest::rOfWires);
        sentence("a WIRE of C (0 .. 9)", NetEdgeTest::cOfWires);
        sentence("WIDTH W (1, 2)", NetEdgeTest::widths);
        sentence("WIDTH W (1 as it comes)", NetEdgeTest::widthAsItComes);
        sentence("ENDS: NODES but 0 that are ABOVE none", NetEdgeTest::ends);
        sentence("LOAD (1 .. 9)", NetEdgeTest::loads);
        sentence("NEED (0 .. 9999)", NetEdgeTest::needs);
        sentence("WANTS (0 as it is, 1 turned)", NetEdgeTest::wants);
        sentence("LOAD 1 as it comes, NEED 100, WANTS 0", NetEdgeTest::endsAsTheyCome);
        sentence("What is told of a NODE that is no END stays with it", NetEdgeTest::staysWithIt);
        sentence("and has no say as long as it is none: LOAD", NetEdgeTest::noSayOfLoad);
        sentence("and has no say as long as it is none: NEED", NetEdgeTest::noSayOfNeed);
        sentence("and has no say as long as it is none: WANTS", NetEdgeTest::noSayOfWants);
    }

    private static void section1Repeaters() {
        sentence("KINDS 1, 2, 3, each there or not (none at first)", NetEdgeTest::kindsThereOrNot);
        sentence("IN (1 .. 9)", NetEdgeTest::kindIn);
        sentence("PULL (0 .. 9)", NetEdgeTest::kindPull);
        sentence("OWN (0 .. 99)", NetEdgeTest::kindOwn);
        sentence("COST (0 .. 99)", NetEdgeTest::kindCost);
        sentence("TURNS (1 it turns about, 0 not)", NetEdgeTest::kindTurns);
        sentence("PLACED: for each NODE but 0 a KIND, or 0: none", NetEdgeTest::placedAnywhereButAtTheSource);
        sentence("PLACED: 0 as it comes", NetEdgeTest::nothingPlacedAsItComes);
        sentence("COST of all: of all that are PLACED, together", NetEdgeTest::costTogether);
    }

    private static void section2() {
        sentence("BEARS, a NODE: its LOAD (an END; else 0)", NetEdgeTest::bearsItsLoad);
        sentence("for each NODE BELOW it C times W of its WIRE and what that SHOWS", NetEdgeTest::bearsWhatIsBelow);
        sentence("SHOWS: what it BEARS; with a REPEATER that one's IN", NetEdgeTest::shows);
        sentence("TIME of the SOURCE: 2 times its PULL times what it BEARS", NetEdgeTest::timeOfTheSource);
        sentence("of its WIRE R times C and 2 / W times R times what it SHOWS", NetEdgeTest::timeOfWires);
        sentence("with a REPEATER its OWN, too, and 2 times its PULL times what the NODE BEARS", NetEdgeTest::timeOfRepeaters);
        sentence("SLACK of an END: NEED less TIME", NetEdgeTest::slackOfEnds);
        sentence("SLACK: the least of all ENDS", NetEdgeTest::leastSlack);
        sentence("SLACK (NEVER: there are none)", NetEdgeTest::slackOfNoEnds);
        sentence("WORST: the END that has it, of like ones the least", NetEdgeTest::worst);
        sentence("WORST (NONE)", NetEdgeTest::worstOfNoEnds);
        sentence("TURNED: 1, if an odd number that turn about stand on the way, at it, too", NetEdgeTest::turned);
        sentence("WRONG ENDS: those whose WANTS is not TURNED", NetEdgeTest::wrongEnds);
    }

    // ---- section 1, NODES

    private static void numbersFromNought() {
        RepeaterWires x = new RepeaterWires();
        due("at(0, 7), the first NODE", x.at(0, 7), 0);
        due("candidate(0, 0, 0, 2), the first CANDIDATE", x.candidate(0, 0, 0, 2), 0);
        due("point(0, 0), the first POINT", x.point(0, 0), 0);
        due("keep(0), the first IMAGE", x.keep(0), 1);
        x.write(0, 5);
        due("told(12), the first entry", x.told(12), 0);
    }

    private static void setsBitByBit() {
        RepeaterWires x = star(5, 1, 1);
        due("told(1), ENDS 1 to 5", x.told(1), 2 + 4 + 8 + 16 + 32);
        for (int v = 1; v <= 5; v++) x.end(v, 1, 100, 1);
        due("told(7), all WRONG", x.told(7), 2 + 4 + 8 + 16 + 32);
        x.kind(3, 1, 1, 1, 1, 0);
        due("told(3), KIND 3", x.told(3), 8);
        x.kind(1, 1, 1, 1, 1, 0);
        due("told(3), KINDS 1, 3", x.told(3), 2 + 8);
    }

    private static void oneToSixNodes() {
        RepeaterWires x = new RepeaterWires();
        due("told(0), at first", x.told(0), 1);
        for (int n = 1; n <= 5; n++) {
            due("at(" + n + ", 7), not yet", x.at(n, 7), UNKNOWN);
            due("node(0, 0, 0)", x.node(0, 0, 0), n);
            due("told(0)", x.told(0), n + 1);
            due("at(" + n + ", 7)", x.at(n, 7), 0);
        }
        due("node(0, 0, 0), the seventh", x.node(0, 0, 0), FULL);
        due("told(0)", x.told(0), 6);
        due("at(6, 7)", x.at(6, 7), UNKNOWN);
        for (int n = 5; n >= 1; n--) due("take()", x.take(), n);
        due("take(), the SOURCE", x.take(), NOT);
        due("told(0)", x.told(0), 1);
    }

    private static void pullOfTheSource() {
        RepeaterWires x = new RepeaterWires();
        due("told(2), at first", x.told(2), 1);
        bounds("PULL", 0, 9, x::pull, () -> x.told(2));
    }

    private static void aboveIsLesser() {
        RepeaterWires x = new RepeaterWires();
        for (int v = 1; v <= 5; v++) {
            due("node(" + v + ", 0, 0), BELOW itself", x.node(v, 0, 0), UNKNOWN);
            due("node(" + (v - 1) + ", 0, 0), BELOW the latest", x.node(v - 1, 0, 0), v);
            due("at(" + v + ", 0)", x.at(v, 0), v - 1);
        }
        RepeaterWires y = star(4, 0, 0);
        due("node(4, 0, 0)", y.node(4, 0, 0), 5);
        due("at(4, 0)", y.at(4, 0), 0);
        due("at(5, 0)", y.at(5, 0), 4);
    }

    private static void rOfNewNodes() {
        for (int r : new int[] {0, 9}) {
            RepeaterWires x = new RepeaterWires();
            due("node(0, " + r + ", 4)", x.node(0, r, 4), 1);
            due("at(1, 1)", x.at(1, 1), r);
        }
        for (int r : new int[] {-1, 10, MIN, MAX}) {
            RepeaterWires x = new RepeaterWires();
            due("node(0, " + r + ", 4)", x.node(0, r, 4), OUTSIDE);
            due("told(0)", x.told(0), 1);
        }
    }

    private static void cOfNewNodes() {
        for (int c : new int[] {0, 9}) {
            RepeaterWires x = new RepeaterWires();
            due("node(0, 4, " + c + ")", x.node(0, 4, c), 1);
            due("at(1, 2)", x.at(1, 2), c);
        }
        for (int c : new int[] {-1, 10, MIN, MAX}) {
            RepeaterWires x = new RepeaterWires();
            due("node(0, 4, " + c + ")", x.node(0, 4, c), OUTSIDE);
            due("told(0)", x.told(0), 1);
        }
    }

    private static void rOfWires() {
        RepeaterWires x = branched();
        bounds("R", 0, 9, r -> x.wire(3, r, 4, 1), () -> x.at(3, 1));
    }

    private static void cOfWires() {
        RepeaterWires x = branched();
        bounds("C", 0, 9, c -> x.wire(3, 4, c, 1), () -> x.at(3, 2));
    }

    private static void widths() {
        RepeaterWires x = branched();
        bounds("W", 1, 2, w -> x.wire(3, 4, 4, w), () -> x.at(3, 3));
        due("wire(3, 4, 4, 0)", x.wire(3, 4, 4, 0), OUTSIDE);
    }

    private static void widthAsItComes() {
        RepeaterWires x = new RepeaterWires();
        x.node(0, 3, 3);
        due("at(1, 3), by node()", x.at(1, 3), 1);
        x.wire(1, 3, 3, 2);
        x.take();
        x.node(0, 3, 3);
        due("at(1, 3), where a wide one was", x.at(1, 3), 1);
        x.wire(1, 3, 3, 2);
        x.take();
        x.drift(1);
        due("at(1, 3), BY DRAWS, where a wide one was", x.at(1, 3), 1);
    }

    private static void ends() {
        RepeaterWires x = new RepeaterWires();
        due("told(1), the SOURCE is no END, even alone", x.told(1), 0);
        x.node(0, 0, 0);
        due("told(1)", x.told(1), 2);
        x.node(1, 0, 0);
        due("told(1), 1 is ABOVE 2", x.told(1), 4);
        x.node(1, 0, 0);
        due("told(1)", x.told(1), 4 + 8);
        x.take();
        due("told(1), 1 is ABOVE 2 still", x.told(1), 4);
        x.take();
        due("told(1), 1 is an END again", x.told(1), 2);
        x.take();
        due("told(1), the SOURCE alone again", x.told(1), 0);
        due("told(1) of a chain of six", chain(5, 0, 0).told(1), 32);
    }

    private static void loads() {
        RepeaterWires x = branched();
        bounds("LOAD", 1, 9, load -> x.end(3, load, 60, 1), () -> x.at(3, 4));
    }

    private static void needs() {
        RepeaterWires x = branched();
        bounds("NEED", 0, 9999, need -> x.end(3, 2, need, 1), () -> x.at(3, 5));
    }

    private static void wants() {
        RepeaterWires x = branched();
        bounds("WANTS", 0, 1, wants -> x.end(3, 2, 60, wants), () -> x.at(3, 6));
    }

    private static void endsAsTheyCome() {
        RepeaterWires x = new RepeaterWires();
        x.node(0, 2, 2);
        atAll(x, 1, 0, 2, 2, 1, 1, 100, 0, 0);
        x.end(1, 9, 9999, 1);
        x.take();
        x.node(0, 2, 2);
        // what was told of another NODE of that number has gone with it
        atAll(x, 1, 0, 2, 2, 1, 1, 100, 0, 0);
    }

    private static void staysWithIt() {
        RepeaterWires x = chain(1, 0, 0);
        x.end(1, 9, 7, 1);
        x.node(1, 0, 0);
        for (int what = 4; what <= 6; what++) due("at(1, " + what + "), no END", x.at(1, what), NONE);
        x.take();
        atAll(x, 1, 0, 0, 0, 1, 9, 7, 1);
        x.node(1, 0, 0);
        due("end(1, 3, 9999, 0), told while it is none", x.end(1, 3, 9999, 0), 0);
        for (int what = 4; what <= 6; what++) due("at(1, " + what + "), no END", x.at(1, what), NONE);
        x.take();
        atAll(x, 1, 0, 0, 0, 1, 3, 9999, 0);
        // an IMAGE keeps it, too, and so does what is undone
        x.node(1, 0, 0);
        x.keep(0);
        x.end(1, 5, 5, 1);
        x.undo(1);
        x.take();
        atAll(x, 1, 0, 0, 0, 1, 3, 9999, 0);
        x.goBack(0);
        x.take();
        atAll(x, 1, 0, 0, 0, 1, 3, 9999, 0);
    }

    /** 1 was told what it has as an END; then 2 came BELOW it, an END as it comes. All WIRES are 0. */
    private static RepeaterWires covered(int load, int need, int wants) {
        RepeaterWires x = chain(1, 0, 0);
        x.end(1, load, need, wants);
        x.node(1, 0, 0);
        return x;
    }

    private static void noSayOfLoad() {
        RepeaterWires x = covered(9, 100, 0);
        due("at(1, 8)", x.at(1, 8), 1);
        due("at(0, 8)", x.at(0, 8), 1);
        rowIs(x, 1, 0, 1, 100, 0);
        pointsAre(x, 0, 98);
        x.take();
        due("at(1, 8), an END again", x.at(1, 8), 9);
        pointsAre(x, 0, 82);
    }

    private static void noSayOfNeed() {
        RepeaterWires x = covered(1, 0, 0);
        due("told(5)", x.told(5), PLUS + 98);
        due("told(6)", x.told(6), 2);
        due("told(9)", x.told(9), PLUS + 98);
        due("at(1, 11)", x.at(1, 11), NONE);
        rowIs(x, 1, 0, 1, 100, 0);
        pointsAre(x, 0, 98);
        x.take();
        due("told(5), an END again", x.told(5), PLUS - 2);
        due("told(6), an END again", x.told(6), 1);
        due("at(1, 11), an END again", x.at(1, 11), PLUS - 2);
    }

    private static void noSayOfWants() {
        RepeaterWires x = covered(1, 100, 1);
        due("told(7)", x.told(7), 0);
        rowIs(x, 1, 0, 1, 100, 0);
        pointsAre(x, 0, 98);
        x.take();
        due("told(7), an END again", x.told(7), 2);
        rowIs(x, 1, 0);
        pointsAre(x);
    }

    // ---- section 1, REPEATERS

    private static void kindsThereOrNot() {
        for (int there = 0; there < 8; there++) {
            RepeaterWires x = new RepeaterWires();
            due("told(3), none at first", x.told(3), 0);
            for (int k = 1; k <= 3; k++) {
                if ((there >> (k - 1) & 1) == 1) due("kind(" + k + ", ..)", x.kind(k, 1, 2, 3, 4, 1), 0);
            }
            due("told(3)", x.told(3), 2 * there);
            for (int k = 1; k <= 3; k++) {
                due("kindAt(" + k + ", 3)", x.kindAt(k, 3), (there >> (k - 1) & 1) == 1 ? 4 : UNKNOWN);
            }
        }
    }

    private static void kindIn() {
        RepeaterWires x = new RepeaterWires();
        bounds("IN", 1, 9, in -> x.kind(1, in, 5, 5, 5, 1), () -> x.kindAt(1, 0));
    }

    private static void kindPull() {
        RepeaterWires x = new RepeaterWires();
        bounds("PULL", 0, 9, pull -> x.kind(2, 5, pull, 5, 5, 1), () -> x.kindAt(2, 1));
    }

    private static void kindOwn() {
        RepeaterWires x = new RepeaterWires();
        bounds("OWN", 0, 99, own -> x.kind(3, 5, 5, own, 5, 1), () -> x.kindAt(3, 2));
    }

    private static void kindCost() {
        RepeaterWires x = new RepeaterWires();
        bounds("COST", 0, 99, cost -> x.kind(1, 5, 5, 5, cost, 1), () -> x.kindAt(1, 3));
    }

    private static void kindTurns() {
        RepeaterWires x = new RepeaterWires();
        bounds("TURNS", 0, 1, turns -> x.kind(2, 5, 5, 5, 5, turns), () -> x.kindAt(2, 4));
    }

    private static void placedAnywhereButAtTheSource() {
        RepeaterWires x = chain(5, 1, 1);
        for (int k = 1; k <= 3; k++) x.kind(k, k, k, k, k, 0);
        for (int v = 1; v <= 5; v++) {
            for (int k = 1; k <= 3; k++) {
                due("place(" + v + ", " + k + ")", x.place(v, k), k - 1);
                due("at(" + v + ", 7)", x.at(v, 7), k);
            }
            due("place(" + v + ", 0)", x.place(v, 0), 3);
            due("at(" + v + ", 7)", x.at(v, 7), 0);
        }
        for (int k = 0; k <= 3; k++) due("place(0, " + k + ")", x.place(0, k), NOT);
        due("at(0, 7)", x.at(0, 7), 0);
    }

    private static void nothingPlacedAsItComes() {
        RepeaterWires x = new RepeaterWires();
        x.kind(2, 1, 1, 1, 1, 0);
        x.node(0, 0, 0);
        due("at(1, 7), by node()", x.at(1, 7), 0);
        x.place(1, 2);
        x.take();
        x.node(0, 0, 0);
        due("at(1, 7), where one stood", x.at(1, 7), 0);
        x.place(1, 2);
        x.take();
        x.drift(1);
        due("at(1, 7), BY DRAWS, where one stood", x.at(1, 7), 0);
    }

    private static void costTogether() {
        RepeaterWires x = star(5, 0, 0);
        x.kind(1, 1, 0, 0, 99, 0);
        x.kind(2, 1, 0, 0, 0, 0);
        x.kind(3, 1, 0, 0, 7, 0);
        due("told(4), nothing is PLACED", x.told(4), 0);
        for (int v = 1; v <= 5; v++) {
            x.place(v, 1);
            due("told(4)", x.told(4), 99 * v);
        }
        x.place(3, 2);
        due("told(4), one that costs 0", x.told(4), 4 * 99);
        x.place(5, 3);
        due("told(4)", x.told(4), 3 * 99 + 7);
        x.kind(1, 1, 0, 0, 10, 0);
        due("told(4), KIND 1 costs less now", x.told(4), 3 * 10 + 7);
        x.take();
        due("told(4), without NODE 5", x.told(4), 3 * 10);
    }

    // ---- section 2

    private static void bearsItsLoad() {
        RepeaterWires x = new RepeaterWires();
        due("at(0, 8), the SOURCE alone", x.at(0, 8), 0);
        x.node(0, 9, 9);
        due("at(1, 8), as it comes", x.at(1, 8), 1);
        x.end(1, 9, 100, 0);
        due("at(1, 8)", x.at(1, 8), 9);
        x.node(1, 9, 0);
        due("at(1, 8), its LOAD is 0 now", x.at(1, 8), 1);
    }

    private static void bearsWhatIsBelow() {
        RepeaterWires x = star(2, 0, 0);
        due("at(0, 8), WIRES of C 0", x.at(0, 8), 2);
        x.wire(1, 0, 9, 2);
        x.end(1, 9, 100, 0);
        due("at(0, 8)", x.at(0, 8), 9 * 2 + 9 + 1);
        x.wire(2, 9, 9, 1);
        due("at(0, 8)", x.at(0, 8), 9 * 2 + 9 + 9 + 1);
        x.wire(1, 0, 9, 1);
        due("at(0, 8), both narrow", x.at(0, 8), 9 + 9 + 9 + 1);
        // through others, too: each of a chain adds its C to all ahead of it
        RepeaterWires y = chain(5, 0, 2);
        for (int v = 0; v <= 5; v++) due("at(" + v + ", 8)", y.at(v, 8), 2 * (5 - v) + 1);
    }

    private static void shows() {
        RepeaterWires x = chain(2, 0, 5);
        x.kind(1, 9, 0, 0, 0, 0);
        x.kind(2, 1, 0, 0, 0, 0);
        due("at(1, 9), what it BEARS", x.at(1, 9), 6);
        due("at(0, 9), what it BEARS", x.at(0, 9), 11);
        x.place(1, 1);
        due("at(1, 9), more than it BEARS", x.at(1, 9), 9);
        due("at(1, 8)", x.at(1, 8), 6);
        due("at(0, 9)", x.at(0, 9), 14);
        x.place(1, 2);
        due("at(1, 9), less than it BEARS", x.at(1, 9), 1);
        due("at(1, 8)", x.at(1, 8), 6);
        due("at(0, 9)", x.at(0, 9), 6);
        due("at(0, 8)", x.at(0, 8), 6);
        x.place(2, 1);
        due("at(1, 8), the END SHOWS more", x.at(1, 8), 14);
        due("at(2, 8), its LOAD", x.at(2, 8), 1);
    }

    private static void timeOfTheSource() {
        RepeaterWires x = new RepeaterWires();
        x.pull(9);
        due("at(0, 10), it BEARS nothing", x.at(0, 10), 0);
        x.node(0, 0, 9);
        due("at(0, 10)", x.at(0, 10), 2 * 9 * 10);
        x.pull(1);
        due("at(0, 10)", x.at(0, 10), 2 * 10);
        x.pull(0);
        due("at(0, 10), PULL 0", x.at(0, 10), 0);
    }

    private static void timeOfWires() {
        RepeaterWires x = chain(1, 9, 9);
        x.pull(0);
        x.end(1, 9, 100, 0);
        due("at(1, 10)", x.at(1, 10), 81 + 2 * 81);
        due("wire(1, 9, 9, 2)", x.wire(1, 9, 9, 2), 81 + 81);
        due("wire(1, 0, 9, 1), R 0", x.wire(1, 0, 9, 1), 0);
        due("wire(1, 9, 0, 1), C 0", x.wire(1, 9, 0, 1), 2 * 81);
        due("wire(1, 9, 0, 2), C 0", x.wire(1, 9, 0, 2), 81);
        due("wire(1, 1, 1, 2), nothing is lost by halves", x.wire(1, 1, 1, 2), 1 + 9);
        due("wire(1, 0, 0, 2)", x.wire(1, 0, 0, 2), 0);
        // that of its ABOVE comes first: each WIRE of the chain is 1 + 2 times what the NODE SHOWS: 9, 7, 5, 3, 1
        RepeaterWires y = chain(5, 1, 2);
        y.pull(0);
        due("at(5, 10)", y.at(5, 10), 5 * 2 + 2 * (9 + 7 + 5 + 3 + 1));
    }

    private static void timeOfRepeaters() {
        RepeaterWires x = chain(1, 9, 9);
        x.pull(0);
        x.end(1, 9, 100, 0);
        x.kind(1, 1, 9, 99, 0, 0);
        x.kind(2, 1, 0, 0, 0, 0);
        x.kind(3, 9, 1, 1, 0, 0);
        x.place(1, 1);
        due("at(1, 10)", x.at(1, 10), 81 + 2 * 9 + 99 + 2 * 9 * 9);
        x.place(1, 2);
        due("at(1, 10), PULL 0, OWN 0", x.at(1, 10), 81 + 2 * 9);
        x.place(1, 3);
        due("at(1, 10)", x.at(1, 10), 81 + 2 * 9 * 9 + 1 + 2 * 9);
        // what it BEARS, not what it SHOWS, and that with the WIRE below it
        x.place(1, 1);
        x.node(1, 0, 9);
        x.wire(2, 0, 9, 2);
        due("at(1, 10), it BEARS 19", x.at(1, 10), 81 + 2 * 9 + 99 + 2 * 9 * 19);
        due("at(2, 10)", x.at(2, 10), 81 + 2 * 9 + 99 + 2 * 9 * 19);
    }

    private static void slackOfEnds() {
        RepeaterWires x = chain(1, 5, 6);
        x.pull(0);
        // TIME 40 in all
        x.end(1, 1, 40, 0);
        due("at(1, 11), just in time", x.at(1, 11), PLUS);
        x.end(1, 1, 39, 0);
        due("at(1, 11), late by 1", x.at(1, 11), PLUS - 1);
        x.end(1, 1, 0, 0);
        due("at(1, 11)", x.at(1, 11), PLUS - 40);
        x.end(1, 1, 9999, 0);
        due("at(1, 11)", x.at(1, 11), PLUS + 9999 - 40);
        due("at(0, 11), no END", x.at(0, 11), NONE);
        x.node(1, 0, 0);
        due("at(1, 11), no END any more", x.at(1, 11), NONE);
    }

    private static void leastSlack() {
        RepeaterWires x = star(5, 0, 0);
        x.pull(0);
        due("told(5), all alike", x.told(5), PLUS + 100);
        for (int v = 1; v <= 5; v++) {
            x.end(v, 1, 100 - v, 0);
            due("told(5), that of " + v, x.told(5), PLUS + 100 - v);
        }
        x.end(3, 1, 0, 0);
        due("told(5), that of 3", x.told(5), PLUS);
        for (int v = 1; v <= 5; v++) x.end(v, 1, 9999, 0);
        due("told(5), the most there is", x.told(5), PLUS + 9999);
    }

    private static void slackOfNoEnds() {
        RepeaterWires x = new RepeaterWires();
        due("told(5), at first", x.told(5), PLUS + NEVER);
        x.pull(9);
        due("told(5), whatever the PULL", x.told(5), PLUS + NEVER);
        x.node(0, 0, 0);
        due("told(5), there is one", x.told(5), PLUS + 82);
        x.take();
        due("told(5), there is none again", x.told(5), PLUS + NEVER);
    }

    private static void worst() {
        RepeaterWires x = star(5, 0, 0);
        due("told(6), all alike", x.told(6), 1);
        x.end(5, 1, 99, 0);
        due("told(6)", x.told(6), 5);
        x.end(4, 1, 99, 0);
        due("told(6), 4 and 5 alike", x.told(6), 4);
        x.end(2, 1, 98, 0);
        due("told(6)", x.told(6), 2);
        due("told(6) of a chain: 5 is the one END", chain(5, 1, 1).told(6), 5);
    }

    private static void worstOfNoEnds() {
        RepeaterWires x = new RepeaterWires();
        due("told(6), at first", x.told(6), NONE);
        x.node(0, 0, 0);
        due("told(6), there is one", x.told(6), 1);
        x.take();
        due("told(6), there is none again", x.told(6), NONE);
    }

    private static void turned() {
        RepeaterWires x = chain(5, 0, 0);
        x.kind(1, 1, 0, 0, 0, 1);
        x.kind(2, 1, 0, 0, 0, 0);
        for (int v = 0; v <= 5; v++) due("at(" + v + ", 12), none stands", x.at(v, 12), 0);
        for (int v = 1; v <= 5; v++) x.place(v, 1);
        for (int v = 0; v <= 5; v++) due("at(" + v + ", 12), so many stand", x.at(v, 12), v % 2);
        x.place(3, 2);
        // 3 turns nothing about: 1, 2, 2, 3, 4 that turn about
        int[] odd = {0, 1, 0, 0, 1, 0};
        for (int v = 0; v <= 5; v++) due("at(" + v + ", 12), 3 does not", x.at(v, 12), odd[v]);
        x.kind(2, 1, 0, 0, 0, 1);
        due("at(3, 12), it does now", x.at(3, 12), 1);
        // what stands beside the way has no say
        RepeaterWires y = star(2, 0, 0);
        y.kind(1, 1, 0, 0, 0, 1);
        y.place(1, 1);
        due("at(1, 12)", y.at(1, 12), 1);
        due("at(2, 12)", y.at(2, 12), 0);
    }

    private static void wrongEnds() {
        RepeaterWires x = star(4, 0, 0);
        x.kind(1, 1, 0, 0, 0, 1);
        x.place(3, 1);
        x.place(4, 1);
        x.end(2, 1, 100, 1);
        x.end(4, 1, 100, 1);
        // 1: as it is and wants it so; 2 wants it turned; 3 gets it turned; 4 gets it turned and wants it so
        due("told(7)", x.told(7), 4 + 8);
        x.place(2, 1);
        due("told(7)", x.told(7), 8);
        x.end(3, 1, 100, 1);
        due("told(7)", x.told(7), 0);
        due("told(7), the SOURCE alone", new RepeaterWires().told(7), 0);
    }
}
