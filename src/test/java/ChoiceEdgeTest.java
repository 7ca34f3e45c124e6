/** Section 3 of "Terms", what can be had: CANDIDATES, POINTS, WIDEST and CHANGE, each sentence at its edges. */
public final class ChoiceEdgeTest extends Sheet {
    public static void main(String[] args) {
        candidates();
        points();
        widestAndChange();
        finish("ChoiceEdgeTest");
    }

    private static void candidates() {
        sentence("CANDIDATES: KINDS that there are, or none", ChoiceEdgeTest::kindsThatThereAre);
        sentence("at it and at all NODES below it", ChoiceEdgeTest::atItAndBelow);
        sentence("through others, too", ChoiceEdgeTest::throughOthers);
        sentence("at the SOURCE none", ChoiceEdgeTest::noneAtTheSource);
        sentence("if what comes to it from above is turned (t 1) or not (0), no END there is WRONG", ChoiceEdgeTest::turnedOrNot);
        sentence("the SLACK of these ENDS if what comes to it came at TIME 0", ChoiceEdgeTest::fromTimeNought);
        sentence("for the SOURCE: if its TIME were 0", ChoiceEdgeTest::sourceFromTimeNought);
        sentence("the SLACK of these ENDS: the least of them", ChoiceEdgeTest::slackOfAllBelow);
        sentence("the COST of these REPEATERS", ChoiceEdgeTest::costOfThese);
        sentence("BEATEN: less SLACK alone", () -> lone(5, 1, 0, 5, 100, 0));
        sentence("BEATEN: more COST alone", () -> lone(5, 0, 1, 5, 100, 0));
        sentence("BEATEN: SHOWS more alone", () -> lone(6, 0, 0, 5, 100, 0));
        sentence("BEATEN: the other one SHOWS less alone", () -> lone(4, 0, 0, 4, 100, 0));
        sentence("not BEATEN: SHOWS less, has less SLACK", () -> lone(4, 1, 0, 4, 99, 0, 5, 100, 0));
        sentence("not BEATEN: SHOWS less, costs more", () -> lone(4, 0, 1, 4, 100, 1, 5, 100, 0));
        sentence("not BEATEN: costs more, has more SLACK", ChoiceEdgeTest::moreForMore);
        sentence("BEATEN by one that is otherwise in all three", ChoiceEdgeTest::beatenInAllThree);
        sentence("each three numbers once", () -> lone(5, 0, 0, 5, 100, 0));
        sentence("numbered by what it SHOWS, then by COST, rising", ChoiceEdgeTest::numberedRising);
        sentence("The SOURCE alone, N 1: one, that SHOWS 0, has SLACK NEVER, COST 0, for both t", ChoiceEdgeTest::sourceAlone);
        sentence("of all ways: the net FULL, three KINDS", ChoiceEdgeTest::fullNet);
    }

    private static void points() {
        sentence("POINTS: by which no END is WRONG", ChoiceEdgeTest::pointsOfRightWays);
        sentence("none that costs no more has more SLACK", ChoiceEdgeTest::noMoreSlackForLess);
        sentence("none of that SLACK costs less", ChoiceEdgeTest::noLessCostForThat);
        sentence("POINTS numbered by COST, rising", ChoiceEdgeTest::pointsRising);
        sentence("POINTS of the SOURCE alone", ChoiceEdgeTest::pointsOfTheSource);
        sentence("of all ways, whatever is PLACED now", ChoiceEdgeTest::whateverIsPlaced);
    }

    private static void widestAndChange() {
        sentence("WIDEST: the greatest SLACK by any WIDTHS", ChoiceEdgeTest::anyWidths);
        sentence("WIDEST: of all WIRES", ChoiceEdgeTest::allWires);
        sentence("WIDEST: REPEATERS PLACED as they are", ChoiceEdgeTest::repeatersAsTheyAre);
        sentence("WIDEST where there are no ENDS", ChoiceEdgeTest::widestOfNoEnds);
        sentence("CHANGE: to another KIND that there is", ChoiceEdgeTest::changeToAnother);
        sentence("CHANGE: or none", ChoiceEdgeTest::changeToNone);
        sentence("CHANGE at one NODE, the last of six, too", ChoiceEdgeTest::changeAtTheLast);
        sentence("CHANGE leaves just the WRONG ENDS that there are", ChoiceEdgeTest::changeLeavesWrong);
        sentence("CHANGE: or fewer of them alone", ChoiceEdgeTest::changeToFewer);
        sentence("CHANGE: that of the greatest SLACK", ChoiceEdgeTest::changeOfGreatestSlack);
        sentence("CHANGE: of like ones that of the least COST of all", ChoiceEdgeTest::changeOfLeastCost);
        sentence("CHANGE: then of the least NODE", ChoiceEdgeTest::changeOfLeastNode);
        sentence("CHANGE: then KIND", ChoiceEdgeTest::changeOfLeastKind);
        sentence("CHANGE: NONE: there is no such change", ChoiceEdgeTest::noChange);
    }

    // ---- CANDIDATES

    /** One END right at the SOURCE, LOAD 5, NEED 100, by a WIRE of R 0, C 0. */
    private static RepeaterWires oneEnd() {
        RepeaterWires x = chain(1, 0, 0);
        x.end(1, 5, 100, 0);
        return x;
    }

    /** The CANDIDATES of that END, with one KIND of PULL 0 that leaves things as they are. Bare it is 5, 100, 0. */
    private static void lone(int in, int own, int cost, int... row) {
        RepeaterWires x = oneEnd();
        x.kind(2, in, 0, own, cost, 0);
        rowIs(x, 1, 0, row);
        rowIs(x, 0, 0, row);
    }

    private static void kindsThatThereAre() {
        RepeaterWires x = oneEnd();
        rowIs(x, 1, 0, 5, 100, 0);
        x.kind(1, 1, 0, 9, 1, 0);
        rowIs(x, 1, 0, 1, 91, 1, 5, 100, 0);
        x.kind(3, 3, 0, 2, 1, 0);
        rowIs(x, 1, 0, 1, 91, 1, 3, 98, 1, 5, 100, 0);
        x.kind(2, 2, 0, 5, 1, 0);
        rowIs(x, 1, 0, 1, 91, 1, 2, 95, 1, 3, 98, 1, 5, 100, 0);
        x.drop(3);
        rowIs(x, 1, 0, 1, 91, 1, 2, 95, 1, 5, 100, 0);
        x.drop(1);
        x.drop(2);
        rowIs(x, 1, 0, 5, 100, 0);
    }

    /** 1 has its own REPEATER or none, and so has 2 below it: four ways, one of them beaten. */
    private static void atItAndBelow() {
        RepeaterWires x = chain(2, 0, 2);
        x.end(2, 5, 100, 0);
        x.kind(1, 1, 0, 3, 10, 0);
        rowIs(x, 2, 0, 1, 97, 10, 5, 100, 0);
        // none: 7, 100, 0; at 2: 3, 97, 10; at 1: 1, 97, 10; at both: 1, 94, 20
        rowIs(x, 1, 0, 1, 97, 10, 7, 100, 0);
        rowIs(x, 0, 0, 3, 97, 10, 9, 100, 0);
    }

    /** The one NODE where a REPEATER does good is at the far end of the chain: its WIRE alone holds back. */
    private static void throughOthers() {
        RepeaterWires x = chain(5, 0, 0);
        x.wire(5, 9, 0, 1);
        x.end(5, 9, 300, 0);
        x.kind(1, 1, 0, 0, 1, 0);
        // bare: 300 less 2 times 9 times 9; with one at the END 300 less 18
        for (int v = 0; v <= 4; v++) rowIs(x, v, 0, 1, 282, 1, 9, 138, 0);
        rowIs(x, 5, 0, 1, 300, 1, 9, 300, 0);
    }

    private static void noneAtTheSource() {
        RepeaterWires x = star(2, 0, 4);
        x.kind(1, 1, 0, 0, 0, 0);
        x.kind(2, 1, 0, 0, 0, 1);
        // a REPEATER at the SOURCE would SHOW 1, or turn about for nothing
        rowIs(x, 0, 0, 10, 100, 0);
        rowIs(x, 0, 1, 10, 100, 0);
        x.drop(2);
        rowIs(x, 0, 1);
    }

    private static void turnedOrNot() {
        RepeaterWires x = oneEnd();
        rowIs(x, 1, 0, 5, 100, 0);
        rowIs(x, 1, 1);
        rowIs(x, 0, 1);
        x.kind(1, 2, 1, 3, 7, 1);
        rowIs(x, 1, 0, 5, 100, 0);
        rowIs(x, 1, 1, 2, 100 - 3 - 10, 7);
        rowIs(x, 0, 1, 2, 87, 7);
        x.end(1, 5, 100, 1);
        rowIs(x, 1, 0, 2, 87, 7);
        rowIs(x, 1, 1, 5, 100, 0);
        rowIs(x, 0, 1, 5, 100, 0);
        // two that turn about, one behind the other, turn nothing
        RepeaterWires y = chain(2, 0, 0);
        y.end(2, 9, 100, 0);
        y.kind(1, 1, 0, 4, 7, 1);
        rowIs(y, 1, 0, 1, 92, 14, 9, 100, 0);
        rowIs(y, 1, 1, 1, 96, 7);
        // of two ENDS one is WRONG either way, if nothing turns
        RepeaterWires z = star(2, 0, 0);
        z.end(2, 1, 100, 1);
        rowIs(z, 0, 0);
        rowIs(z, 0, 1);
    }

    private static void fromTimeNought() {
        RepeaterWires x = chain(1, 9, 9);
        x.end(1, 5, 100, 0);
        x.kind(1, 2, 3, 4, 6, 0);
        // its own REPEATER counts: OWN 4, and 2 times 3 times 5; its WIRE does not
        rowIs(x, 1, 0, 2, 100 - 4 - 30, 6, 5, 100, 0);
        // but it does for the SOURCE: 81 and 2 times 9 times 2, or times 5, and C 9
        rowIs(x, 0, 0, 11, 66 - 81 - 36, 6, 14, 100 - 81 - 90, 0);
        x.wire(1, 9, 9, 2);
        rowIs(x, 1, 0, 2, 66, 6, 5, 100, 0);
        rowIs(x, 0, 0, 20, 66 - 81 - 18, 6, 23, 100 - 81 - 45, 0);
    }

    private static void sourceFromTimeNought() {
        RepeaterWires x = chain(1, 1, 2);
        for (int p : new int[] {0, 1, 9}) {
            x.pull(p);
            rowIs(x, 0, 0, 3, 96, 0);
            pointsAre(x, 0, 96 - 2 * p * 3);
        }
    }

    private static void slackOfAllBelow() {
        RepeaterWires x = star(3, 0, 0);
        x.end(1, 1, 70, 0);
        x.end(2, 1, 9999, 0);
        x.end(3, 1, 60, 0);
        rowIs(x, 0, 0, 3, 60, 0);
        x.end(3, 1, 0, 0);
        rowIs(x, 0, 0, 3, 0, 0);
        x.wire(2, 9, 9, 1);
        // 81 and 18 of 9999
        x.end(1, 1, 9999, 0);
        x.end(3, 1, 9999, 0);
        rowIs(x, 0, 0, 12, 9900, 0);
    }

    private static void costOfThese() {
        // all five must be turned about, at its own place each: 5 times 99
        RepeaterWires x = star(5, 0, 0);
        x.kind(3, 1, 0, 0, 99, 1);
        rowIs(x, 0, 1, 5, 100, 495);
        rowIs(x, 0, 0, 5, 100, 0);
        rowIs(x, 5, 1, 1, 100, 99);
        // what is PLACED now beside it has no say
        x.place(1, 3);
        rowIs(x, 5, 0, 1, 100, 0);
    }

    private static void moreForMore() {
        RepeaterWires x = oneEnd();
        x.kind(1, 3, 0, 1, 8, 0);
        x.kind(2, 3, 0, 4, 7, 0);
        x.kind(3, 3, 0, 0, 9, 0);
        rowIs(x, 1, 0, 3, 96, 7, 3, 99, 8, 3, 100, 9, 5, 100, 0);
    }

    private static void beatenInAllThree() {
        RepeaterWires x = oneEnd();
        x.kind(1, 3, 0, 4, 6, 0);
        x.kind(2, 2, 0, 3, 5, 0);
        rowIs(x, 1, 0, 2, 97, 5, 5, 100, 0);
        // told the other way round, too
        x.kind(1, 2, 0, 3, 5, 0);
        x.kind(2, 3, 0, 4, 6, 0);
        rowIs(x, 1, 0, 2, 97, 5, 5, 100, 0);
        // one newcomer beats several at once
        x.kind(1, 4, 0, 4, 6, 0);
        x.kind(2, 3, 0, 5, 6, 0);
        x.kind(3, 1, 0, 0, 0, 0);
        rowIs(x, 1, 0, 1, 100, 0);
    }

    private static void numberedRising() {
        RepeaterWires x = oneEnd();
        x.kind(1, 4, 0, 1, 3, 0);
        x.kind(2, 1, 0, 9, 9, 0);
        x.kind(3, 4, 0, 2, 2, 0);
        rowIs(x, 1, 0, 1, 91, 9, 4, 98, 2, 4, 99, 3, 5, 100, 0);
        // by what it SHOWS first, whatever the COST
        x.kind(1, 3, 0, 1, 99, 0);
        x.kind(2, 2, 0, 2, 98, 0);
        x.kind(3, 1, 0, 3, 97, 0);
        rowIs(x, 1, 0, 1, 97, 97, 2, 98, 98, 3, 99, 99, 5, 100, 0);
    }

    private static void sourceAlone() {
        RepeaterWires x = new RepeaterWires();
        rowIs(x, 0, 0, 0, NEVER, 0);
        rowIs(x, 0, 1, 0, NEVER, 0);
        x.pull(9);
        x.kind(1, 1, 0, 0, 0, 0);
        x.kind(2, 1, 0, 0, 0, 1);
        rowIs(x, 0, 0, 0, NEVER, 0);
        rowIs(x, 0, 1, 0, NEVER, 0);
        x.node(0, 1, 1);
        due("candidate(0, 0, 0, 0)", x.candidate(0, 0, 0, 0), 2);
        x.take();
        rowIs(x, 0, 0, 0, NEVER, 0);
        rowIs(x, 0, 1, 0, NEVER, 0);
    }

    /** Each of five ENDS has 2 for 0 or 1 for 1 (and two KINDS that are beaten): 5 + m are SHOWN for 5 - m. */
    private static void fullNet() {
        RepeaterWires x = star(5, 0, 0);
        for (int v = 1; v <= 5; v++) x.end(v, 2, 100, 0);
        x.kind(1, 1, 0, 0, 1, 0);
        x.kind(2, 1, 0, 0, 2, 0);
        x.kind(3, 2, 0, 0, 1, 0);
        rowIs(x, 5, 0, 1, 100, 1, 2, 100, 0);
        rowIs(x, 0, 0, 5, 100, 5, 6, 100, 4, 7, 100, 3, 8, 100, 2, 9, 100, 1, 10, 100, 0);
        rowIs(x, 0, 1);
        pointsAre(x, 0, 80, 1, 82, 2, 84, 3, 86, 4, 88, 5, 90);
        // 9 for 0, 8 for 1, 6 for 6, 1 for 36 at each of the five: many more are left
        RepeaterWires y = star(5, 0, 0);
        for (int v = 1; v <= 5; v++) y.end(v, 9, 100, 0);
        y.kind(1, 8, 0, 0, 1, 0);
        y.kind(2, 6, 0, 0, 6, 0);
        y.kind(3, 1, 0, 0, 36, 0);
        due("candidates(5, 0)", y.candidates(5, 0), 4);
        due("candidates(0, 0)", y.candidates(0, 0), leftOfFive());
    }

    /** By hand it would be long: of all 56 ways to share the five NODES among the four those that are not BEATEN. */
    private static int leftOfFive() {
        int left = 0;
        int leastCost = MAX;
        // rising by what is SHOWN, what costs no less than one ahead of it is beaten
        for (int shows = 5; shows <= 45; shows++) {
            int cost = leastCostFor(shows);
            if (cost < leastCost) {
                left++;
                leastCost = cost;
            }
        }
        return left;
    }

    private static int leastCostFor(int shows) {
        int least = MAX;
        for (int a = 0; a <= 5; a++) {
            for (int b = 0; a + b <= 5; b++) {
                for (int c = 0; a + b + c <= 5; c++) {
                    int none = 5 - a - b - c;
                    if (8 * a + 6 * b + c + 9 * none == shows) least = Math.min(least, a + 6 * b + 36 * c);
                }
            }
        }
        return least;
    }

    // ---- POINTS

    private static void pointsOfRightWays() {
        RepeaterWires x = oneEnd();
        x.pull(9);
        pointsAre(x, 0, 10);
        x.kind(1, 1, 0, 0, 3, 1);
        // the one REPEATER would do good, but it turns about
        pointsAre(x, 0, 10);
        x.end(1, 5, 100, 1);
        pointsAre(x, 3, 100 - 18);
        x.drop(1);
        pointsAre(x);
    }

    private static void noMoreSlackForLess() {
        RepeaterWires x = oneEnd();
        x.pull(1);
        // bare 90 for 0; KIND 1: 98 less 3 for 2; KIND 2: 98 less 4 for 3
        x.kind(1, 1, 0, 3, 2, 0);
        x.kind(2, 1, 0, 4, 3, 0);
        pointsAre(x, 0, 90, 2, 95);
        // for the same COST the greater SLACK
        x.kind(2, 1, 0, 2, 2, 0);
        pointsAre(x, 0, 90, 2, 96);
        // less SLACK than bare, for more
        x.kind(1, 1, 0, 20, 2, 0);
        x.kind(2, 1, 0, 9, 2, 0);
        pointsAre(x, 0, 90);
    }

    private static void noLessCostForThat() {
        RepeaterWires x = oneEnd();
        x.pull(1);
        x.kind(1, 1, 0, 3, 5, 0);
        x.kind(2, 1, 0, 3, 4, 0);
        pointsAre(x, 0, 90, 4, 95);
        // just what is had bare, for something
        x.kind(1, 1, 0, 8, 5, 0);
        x.kind(2, 1, 0, 8, 4, 0);
        pointsAre(x, 0, 90);
        // and for nothing: once
        x.kind(1, 1, 0, 8, 0, 0);
        pointsAre(x, 0, 90);
    }

    private static void pointsRising() {
        RepeaterWires x = oneEnd();
        x.pull(9);
        // 82 less OWN; bare 10
        x.kind(1, 1, 0, 1, 99, 0);
        x.kind(2, 1, 0, 2, 50, 0);
        x.kind(3, 1, 0, 3, 1, 0);
        pointsAre(x, 0, 10, 1, 79, 50, 80, 99, 81);
    }

    private static void pointsOfTheSource() {
        RepeaterWires x = new RepeaterWires();
        pointsAre(x, 0, NEVER);
        x.pull(9);
        x.kind(1, 1, 1, 1, 1, 1);
        pointsAre(x, 0, NEVER);
        x.node(0, 0, 0);
        x.take();
        pointsAre(x, 0, NEVER);
    }

    private static void whateverIsPlaced() {
        RepeaterWires x = branched();
        pointsAre(x, 4, -29, 8, -28, 11, -8);
        x.place(1, 1);
        x.place(2, 2);
        x.place(3, 1);
        pointsAre(x, 4, -29, 8, -28, 11, -8);
        rowIs(x, 3, 0, 1, 47, 4);
        rowIs(x, 3, 1, 2, 60, 0);
        due("best(4)", x.best(4), PLUS - 29);
        due("least(-28)", x.least(-28), 8);
    }

    // ---- WIDEST

    private static void anyWidths() {
        // R 9, C 0: wide is better, 9 times 9 less
        RepeaterWires x = chain(1, 9, 0);
        x.pull(0);
        x.end(1, 9, 200, 0);
        due("told(5), narrow", x.told(5), PLUS + 200 - 162);
        due("told(9)", x.told(9), PLUS + 200 - 81);
        due("at(1, 3), as it was", x.at(1, 3), 1);
        x.wire(1, 9, 0, 2);
        due("told(5), wide", x.told(5), PLUS + 200 - 81);
        due("told(9)", x.told(9), PLUS + 200 - 81);
        // R 0, C 9: narrow is better, 2 times 9 less
        x.wire(1, 0, 9, 2);
        x.pull(1);
        due("told(5), wide", x.told(5), PLUS + 200 - 54);
        due("told(9)", x.told(9), PLUS + 200 - 36);
        due("at(1, 3), as it was", x.at(1, 3), 2);
    }

    /** 1 should be wide and 2 narrow, whatever they are: 9 times what 1 SHOWS, 10. */
    private static void allWires() {
        RepeaterWires x = chain(2, 0, 0);
        x.pull(0);
        for (int w = 1; w <= 2; w++) {
            x.wire(1, 9, 0, w);
            for (int u = 1; u <= 2; u++) {
                x.wire(2, 0, 9, u);
                due("told(9), W " + w + " and " + u, x.told(9), PLUS + 100 - 90);
                due("told(5), W " + w + " and " + u, x.told(5), PLUS + 100 - 18 / w * (9 * u + 1));
            }
        }
        // each of the five ENDS keeps the least SLACK down, until its own WIRE is wide
        RepeaterWires y = star(5, 5, 0);
        y.pull(0);
        due("told(5)", y.told(5), PLUS + 90);
        due("told(9)", y.told(9), PLUS + 95);
        for (int v = 1; v <= 5; v++) y.wire(v, 5, 0, 2);
        due("told(5)", y.told(5), PLUS + 95);
        due("told(9)", y.told(9), PLUS + 95);
    }

    private static void repeatersAsTheyAre() {
        RepeaterWires x = chain(1, 9, 0);
        x.pull(0);
        x.end(1, 9, 200, 0);
        x.kind(1, 1, 0, 0, 0, 0);
        x.kind(2, 9, 9, 99, 99, 1);
        due("told(9), KIND 1 would be better", x.told(9), PLUS + 200 - 81);
        x.place(1, 1);
        due("told(9)", x.told(9), PLUS + 200 - 9);
        x.place(1, 2);
        due("told(9), bare would be better", x.told(9), PLUS + 200 - 81 - 99 - 162);
        due("at(1, 7)", x.at(1, 7), 2);
    }

    private static void widestOfNoEnds() {
        RepeaterWires x = new RepeaterWires();
        due("told(9), at first", x.told(9), PLUS + NEVER);
        x.node(0, 9, 9);
        x.take();
        due("told(9), there is none again", x.told(9), PLUS + NEVER);
    }

    // ---- CHANGE

    private static void changeToAnother() {
        RepeaterWires x = oneEnd();
        x.kind(1, 9, 0, 50, 1, 0);
        x.kind(2, 9, 0, 40, 1, 0);
        // for the worse, but there is no other; KIND 3 is not there
        due("told(10)", x.told(10), 12);
        x.place(1, 2);
        due("told(10), 2 stands: to none is best", x.told(10), 10);
        x.kind(1, 1, 0, 0, 1, 0);
        due("told(10), 1 is better now", x.told(10), 11);
        x.place(1, 1);
        due("told(10), 1 stands: the like is no change", x.told(10), 10);
        x.kind(2, 1, 0, 1, 1, 0);
        // 98 less 1, bare 90
        due("told(10), the next best", x.told(10), 12);
        x.drop(2);
        due("told(10), it is not there", x.told(10), 10);
    }

    private static void changeToNone() {
        RepeaterWires x = oneEnd();
        x.kind(3, 9, 9, 99, 99, 0);
        x.place(1, 3);
        due("told(10)", x.told(10), 10);
        due("change()", x.change(), PLUS + 90);
        due("at(1, 7)", x.at(1, 7), 0);
        due("told(4)", x.told(4), 0);
        due("told(10), back again, for there is no other", x.told(10), 13);
    }

    private static void changeAtTheLast() {
        RepeaterWires x = star(5, 0, 0);
        x.pull(0);
        x.wire(5, 1, 0, 1);
        x.end(5, 9, 50, 0);
        x.kind(3, 1, 0, 0, 0, 0);
        due("told(5)", x.told(5), PLUS + 32);
        due("told(10)", x.told(10), 53);
        due("change()", x.change(), PLUS + 48);
        due("at(5, 7)", x.at(5, 7), 3);
    }

    private static void changeLeavesWrong() {
        RepeaterWires x = star(2, 0, 0);
        x.pull(0);
        x.end(1, 1, 100, 1);
        x.end(2, 1, 200, 0);
        x.kind(1, 1, 0, 5, 0, 0);
        due("told(7), 1 is WRONG", x.told(7), 2);
        // it stays WRONG, that is allowed; at 2 it costs 5 of what 2 has more
        due("told(10)", x.told(10), 21);
        x.kind(2, 1, 0, 0, 0, 1);
        // at 2 it would make that WRONG, too; at 1 it makes it right, with SLACK 100 as well
        due("told(10), fewer of them", x.told(10), 12);
        due("change()", x.change(), PLUS + 100);
        due("told(7)", x.told(7), 0);
    }

    /** 1 - { 2, 3 }: 2 wants it turned. To turn about at 1 makes 2 right and 3 WRONG: not fewer of them alone. */
    private static void changeToFewer() {
        RepeaterWires x = chain(2, 0, 0);
        x.node(1, 0, 0);
        x.pull(0);
        x.end(2, 1, 100, 1);
        x.kind(1, 1, 0, 9, 0, 1);
        due("told(7)", x.told(7), 4);
        due("told(10)", x.told(10), 21);
        x.end(3, 1, 100, 1);
        due("told(7), both", x.told(7), 4 + 8);
        due("told(10), none of them is left", x.told(10), 11);
        x.place(1, 1);
        due("told(7)", x.told(7), 0);
        due("told(10), each change would make one WRONG", x.told(10), NONE);
    }

    private static void changeOfGreatestSlack() {
        RepeaterWires x = oneEnd();
        x.kind(1, 1, 0, 2, 0, 0);
        x.kind(2, 1, 0, 1, 99, 0);
        x.kind(3, 1, 0, 3, 0, 0);
        due("told(10), however dear", x.told(10), 12);
        due("change()", x.change(), PLUS + 97);
    }

    private static void changeOfLeastCost() {
        due("told(10)", twins(9, 3, 5).told(10), 12);
        due("told(10)", twins(9, 5, 3).told(10), 13);
        RepeaterWires x = twins(9, 3, 5);
        x.place(2, 1);
        // 12 makes it 12 in all, 20 makes it 0
        due("told(10), of all, not of the new one alone", x.told(10), 20);
        RepeaterWires y = twins(9, 3, 5);
        y.place(1, 2);
        y.place(2, 1);
        // 10 leaves 9, 13 makes 14, 20 leaves 3, 22 makes 6
        due("told(10)", y.told(10), 20);
    }

    private static void changeOfLeastNode() {
        due("told(10)", twins(4, 4, 4).told(10), 11);
        RepeaterWires x = twins(0, 0, 0);
        x.place(1, 3);
        due("told(10), none at 1", x.told(10), 10);
        RepeaterWires y = twins(5, 0, 9);
        y.place(1, 1);
        y.place(2, 1);
        // COST 5 in all by 10, 12, 20, 22
        due("told(10)", y.told(10), 10);
    }

    private static void changeOfLeastKind() {
        due("told(10)", twins(7, 4, 4).told(10), 12);
        due("told(10)", twins(4, 7, 4).told(10), 11);
        RepeaterWires x = twins(5, 0, 9);
        x.place(1, 1);
        due("told(10), none ahead of KIND 2, that costs 0", x.told(10), 10);
        x.place(1, 0);
        due("told(10), none stands: KIND 2", x.told(10), 12);
    }

    private static void noChange() {
        RepeaterWires x = new RepeaterWires();
        x.kind(1, 1, 1, 1, 1, 0);
        due("told(10), the SOURCE alone", x.told(10), NONE);
        due("change()", x.change(), NOT);
        RepeaterWires y = star(5, 1, 1);
        due("told(10), no KINDS", y.told(10), NONE);
        due("change()", y.change(), NOT);
        RepeaterWires z = oneEnd();
        z.kind(2, 1, 0, 0, 0, 1);
        due("told(10), it would be WRONG", z.told(10), NONE);
        due("change()", z.change(), NOT);
        due("told(13)", z.told(13), 3);
        z.end(1, 5, 100, 1);
        due("told(10), now it would be right", z.told(10), 12);
    }
}
