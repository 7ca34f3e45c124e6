/** Promises 1 to 26, call by call: what each answers at its edges, and what it refuses. */
public final class CallEdgeTest extends Sheet {
    public static void main(String[] args) {
        questions();
        choices();
        deedsOfNets();
        deedsOfRepeaters();
        bookAndImages();
        finish("CallEdgeTest");
    }

    private static void questions() {
        sentence("1: The SOURCE alone, no KINDS", CallEdgeTest::newObject);
        sentence("1: of each object its own", CallEdgeTest::objectsApart);
        sentence("2: told of the SOURCE alone", CallEdgeTest::toldAtFirst);
        sentence("2: told of a net that is FULL", CallEdgeTest::toldWhenFull);
        sentence("2: told, OUTSIDE", CallEdgeTest::toldOutside);
        sentence("3: at, 0 to 3: NONE: the SOURCE", CallEdgeTest::noWireAtTheSource);
        sentence("3: at, 4 to 6: NONE: it is no END", CallEdgeTest::noEndNumbers);
        sentence("3: at, 11: NONE: it is no END", CallEdgeTest::noSlack);
        sentence("3: at, 7 to 10 and 12 of the SOURCE", CallEdgeTest::theRestOfTheSource);
        sentence("3: at, UNKNOWN, OUTSIDE", CallEdgeTest::atRefused);
        sentence("4: kindAt, 0 IN, 1 PULL, 2 OWN, 3 COST, 4 TURNS", CallEdgeTest::kindAtEdges);
        sentence("4: kindAt, UNKNOWN, OUTSIDE", CallEdgeTest::kindAtRefused);
    }

    private static void choices() {
        sentence("5: candidates by t, UNKNOWN, OUTSIDE", CallEdgeTest::candidatesRefused);
        sentence("5: candidates, none", CallEdgeTest::noCandidates);
        sentence("6: candidate, i is looked for by t 0, 1 alone", CallEdgeTest::candidateByT);
        sentence("6: candidate, UNKNOWN, OUTSIDE", CallEdgeTest::candidateRefused);
        sentence("7: point, UNKNOWN, OUTSIDE", CallEdgeTest::pointRefused);
        sentence("8: best: no more than a cost", CallEdgeTest::bestForJustThat);
        sentence("8: best: with no WRONG ENDS; NONE", CallEdgeTest::bestOfNone);
        sentence("8: best, OUTSIDE: below 0", CallEdgeTest::bestBelowNought);
        sentence("9: least: s at least", CallEdgeTest::leastForJustThat);
        sentence("9: least: with no WRONG ENDS; NONE", CallEdgeTest::leastOfNone);
        sentence("9: least of any s", CallEdgeTest::leastOfAny);
        sentence("10: would, k a KIND, or 0", CallEdgeTest::wouldOfAny);
        sentence("10: would, with WRONG ENDS all the same", CallEdgeTest::wouldBeWrong);
        sentence("10: would changes nothing", CallEdgeTest::wouldAlone);
        sentence("10: would, UNKNOWN, NOT: the SOURCE", CallEdgeTest::wouldRefused);
    }

    private static void deedsOfNets() {
        sentence("11: node: its number", CallEdgeTest::nodeNumbers);
        sentence("11: node, UNKNOWN, OUTSIDE, FULL (6)", CallEdgeTest::nodeRefused);
        sentence("12: end: 1 it is an END, 0 not", CallEdgeTest::endOrNot);
        sentence("12: end, UNKNOWN, OUTSIDE, NOT: the SOURCE", CallEdgeTest::endRefused);
        sentence("13: wire: its TIME", CallEdgeTest::wireTime);
        sentence("13: wire, UNKNOWN, OUTSIDE, NOT: the SOURCE", CallEdgeTest::wireRefused);
        sentence("14: pull: what it was", CallEdgeTest::pullWas);
        sentence("14: pull, OUTSIDE", CallEdgeTest::pullRefused);
        sentence("18: take: how many are left", CallEdgeTest::takeLeaves);
        sentence("18: take, NOT: the SOURCE alone is there", CallEdgeTest::takeTheSource);
        sentence("20: drift: n times (1 .. 6): N", CallEdgeTest::driftOneToSix);
        sentence("20: drift, OUTSIDE", CallEdgeTest::driftRefused);
        sentence("21: undo: the n latest (1 .. 16): how many can be then", CallEdgeTest::undoOneToSixteen);
        sentence("21: undo, OUTSIDE, NOT: not so many", CallEdgeTest::undoRefused);
    }

    private static void deedsOfRepeaters() {
        sentence("15: kind: 1 it was there, 0 not", CallEdgeTest::kindWasThere);
        sentence("15: kind: one that is PLACED becomes another", CallEdgeTest::kindWhilePlaced);
        sentence("15: kind k (1 .. 3), UNKNOWN, OUTSIDE", CallEdgeTest::kindRefused);
        sentence("16: drop: how many are", CallEdgeTest::dropLeaves);
        sentence("16: drop, UNKNOWN, NOT: it is PLACED", CallEdgeTest::dropRefused);
        sentence("16: drop of what is PLACED no more", CallEdgeTest::dropWhenFree);
        sentence("17: place: what was", CallEdgeTest::placeWas);
        sentence("17: place, UNKNOWN, NOT: the SOURCE", CallEdgeTest::placeRefused);
        sentence("19: change: CHANGE is made: SLACK and PLUS", CallEdgeTest::changeMade);
        sentence("19: change, NOT: there is none", CallEdgeTest::changeRefused);
    }

    private static void bookAndImages() {
        sentence("22: write: TIME v, any", CallEdgeTest::writeAny);
        sentence("22: write: how many; FULL (20)", CallEdgeTest::writeTwenty);
        sentence("22: write, UNKNOWN", CallEdgeTest::writeRefused);
        sentence("23: tear: how much it had", CallEdgeTest::tearHad);
        sentence("24: seed: what it was (0 .. 2147483647)", CallEdgeTest::seedWas);
        sentence("24: seed, OUTSIDE", CallEdgeTest::seedRefused);
        sentence("25: keep: 1; nothing can be undone then", CallEdgeTest::keepOne);
        sentence("25: keep, UNKNOWN", CallEdgeTest::keepRefused);
        sentence("26: goBack: 1; nothing can be undone then", CallEdgeTest::goBackOne);
        sentence("26: goBack, UNKNOWN, NOT: it was not kept", CallEdgeTest::goBackRefused);
        sentence("512 calls of one object", CallEdgeTest::manyCalls);
    }

    // ---- what is so

    private static void newObject() {
        RepeaterWires x = new RepeaterWires();
        due("told(0)", x.told(0), 1);
        due("told(3)", x.told(3), 0);
        due("at(0, 0)", x.at(0, 0), NONE);
        due("at(1, 0)", x.at(1, 0), UNKNOWN);
        for (int k = 1; k <= 3; k++) due("kindAt(" + k + ", 0)", x.kindAt(k, 0), UNKNOWN);
        due("take()", x.take(), NOT);
        due("change()", x.change(), NOT);
        due("undo(1)", x.undo(1), NOT);
        due("goBack(0)", x.goBack(0), NOT);
        due("goBack(1)", x.goBack(1), NOT);
        due("tear()", x.tear(), 0);
        due("seed(0)", x.seed(0), 0);
        due("pull(1)", x.pull(1), 1);
    }

    private static void objectsApart() {
        RepeaterWires x = new RepeaterWires();
        RepeaterWires y = new RepeaterWires();
        String was = picture(y);
        x.kind(1, 9, 9, 9, 9, 1);
        x.drift(6);
        x.place(5, 1);
        x.keep(0);
        x.pull(9);
        x.write(0, 0);
        same("another object", picture(y), was);
        due("goBack(0) of the other one", y.goBack(0), NOT);
        due("undo(1) of the other one", y.undo(1), NOT);
    }

    private static void toldAtFirst() {
        toldAll(new RepeaterWires(), 1, 0, 1, 0, 0, PLUS + NEVER, NONE, 0, 1, PLUS + NEVER, NONE, 0, NONE, 0, 0);
    }

    /** A chain of six, R 1, C 2, KINDS that do no good; all at its most, but for what can be undone and THE SEED. */
    private static void toldWhenFull() {
        RepeaterWires x = chain(5, 1, 2);
        for (int k = 1; k <= 3; k++) x.kind(k, 9, 9, 99, 99, 0);
        x.pull(9);
        x.end(5, 1, 9999, 1);
        for (int i = 0; i < 20; i++) x.write(5, 0);
        x.place(1, 1);
        x.seed(MAX);
        // BEARS 11, 9, 7, 5, 3, 1 (1 SHOWS 9 by its REPEATER, too): TIME of the SOURCE 198, and then for each NODE
        int time = 198 + (2 + 18 + 99 + 162) + (2 + 14) + (2 + 10) + (2 + 6) + (2 + 2);
        toldAll(x, 6, 32, 9, 14, 99, PLUS + 9999 - time, 5, 32, 0);
        due("told(10), to none: 180 less", x.told(10), 10);
        due("told(11)", x.told(11), 20);
        due("told(12)", x.told(12), 0);
        due("told(13)", x.told(13), 11);
        due("told(14)", x.told(14), MAX);
    }

    private static void toldOutside() {
        RepeaterWires x = branched();
        for (int what : new int[] {-1, 15, 16, MIN, MAX}) due("told(" + what + ")", x.told(what), OUTSIDE);
        due("told(0)", x.told(0), 4);
        due("told(14)", x.told(14), 0);
    }

    private static void noWireAtTheSource() {
        RepeaterWires alone = new RepeaterWires();
        RepeaterWires x = branched();
        for (int what = 0; what <= 3; what++) {
            due("at(0, " + what + "), alone", alone.at(0, what), NONE);
            due("at(0, " + what + ")", x.at(0, what), NONE);
        }
        atAll(x, 1, 0, 2, 3, 1);
        atAll(x, 3, 1, 5, 0, 1);
    }

    private static void noEndNumbers() {
        RepeaterWires alone = new RepeaterWires();
        RepeaterWires x = branched();
        for (int what = 4; what <= 6; what++) {
            due("at(0, " + what + "), alone", alone.at(0, what), NONE);
            due("at(0, " + what + ")", x.at(0, what), NONE);
            due("at(1, " + what + ")", x.at(1, what), NONE);
        }
        due("at(3, 4)", x.at(3, 4), 2);
        due("at(3, 5)", x.at(3, 5), 60);
        due("at(3, 6)", x.at(3, 6), 1);
    }

    private static void noSlack() {
        due("at(0, 11), alone", new RepeaterWires().at(0, 11), NONE);
        RepeaterWires x = branched();
        due("at(0, 11)", x.at(0, 11), NONE);
        due("at(1, 11)", x.at(1, 11), NONE);
        due("at(2, 11)", x.at(2, 11), PLUS - 34);
        due("at(3, 11)", x.at(3, 11), PLUS - 32);
    }

    private static void theRestOfTheSource() {
        RepeaterWires alone = new RepeaterWires();
        for (int what : new int[] {7, 8, 9, 10, 12}) due("at(0, " + what + "), alone", alone.at(0, what), 0);
        RepeaterWires x = branched();
        x.place(1, 2);
        // 1 SHOWS 1 by its REPEATER, and C 3
        due("at(0, 7)", x.at(0, 7), 0);
        due("at(0, 8)", x.at(0, 8), 4);
        due("at(0, 9)", x.at(0, 9), 4);
        due("at(0, 10)", x.at(0, 10), 8);
        due("at(0, 12)", x.at(0, 12), 0);
    }

    private static void atRefused() {
        RepeaterWires x = branched();
        for (int v : new int[] {-1, 4, MIN, MAX}) due("at(" + v + ", 0)", x.at(v, 0), UNKNOWN);
        for (int what : new int[] {-1, 13, MIN, MAX}) {
            due("at(0, " + what + ")", x.at(0, what), OUTSIDE);
            due("at(3, " + what + ")", x.at(3, what), OUTSIDE);
        }
        due("at(3, 0)", x.at(3, 0), 1);
        due("at(3, 12)", x.at(3, 12), 0);
        x.take();
        due("at(3, 0), it has gone", x.at(3, 0), UNKNOWN);
    }

    private static void kindAtEdges() {
        RepeaterWires x = new RepeaterWires();
        x.kind(1, 9, 9, 99, 99, 1);
        x.kind(2, 1, 2, 3, 4, 0);
        x.kind(3, 1, 0, 0, 0, 0);
        kindIs(x, 1, 9, 9, 99, 99, 1);
        kindIs(x, 2, 1, 2, 3, 4, 0);
        kindIs(x, 3, 1, 0, 0, 0, 0);
    }

    private static void kindAtRefused() {
        RepeaterWires x = new RepeaterWires();
        x.kind(2, 1, 2, 3, 4, 0);
        for (int k : new int[] {-1, 0, 1, 3, 4, 34, MIN, MAX}) due("kindAt(" + k + ", 0)", x.kindAt(k, 0), UNKNOWN);
        for (int what : new int[] {-1, 5, MIN, MAX}) due("kindAt(2, " + what + ")", x.kindAt(2, what), OUTSIDE);
        x.drop(2);
        due("kindAt(2, 0), dropped", x.kindAt(2, 0), UNKNOWN);
        x.undo(1);
        kindIs(x, 2, 1, 2, 3, 4, 0);
    }

    // ---- what can be had

    private static void candidatesRefused() {
        RepeaterWires x = branched();
        for (int v : new int[] {-1, 4, MIN, MAX}) {
            due("candidates(" + v + ", 0)", x.candidates(v, 0), UNKNOWN);
            due("candidates(" + v + ", 1)", x.candidates(v, 1), UNKNOWN);
        }
        for (int t : new int[] {-1, 2, MIN, MAX}) {
            for (int v = 0; v <= 3; v++) due("candidates(" + v + ", " + t + ")", x.candidates(v, t), OUTSIDE);
        }
        due("candidates(3, 0)", x.candidates(3, 0), 1);
        due("candidates(3, 1)", x.candidates(3, 1), 1);
        due("candidates(0, 0)", x.candidates(0, 0), 3);
        due("candidates(0, 1)", x.candidates(0, 1), 4);
    }

    private static void noCandidates() {
        RepeaterWires x = chain(5, 1, 1);
        for (int v = 0; v <= 5; v++) {
            due("candidates(" + v + ", 0)", x.candidates(v, 0), 1);
            due("candidates(" + v + ", 1)", x.candidates(v, 1), 0);
        }
        x.end(5, 1, 100, 1);
        for (int v = 0; v <= 5; v++) {
            due("candidates(" + v + ", 0), turned is wanted", x.candidates(v, 0), 0);
            due("candidates(" + v + ", 1), turned is wanted", x.candidates(v, 1), 1);
        }
    }

    private static void candidateByT() {
        RepeaterWires x = branched();
        for (int t : new int[] {-1, 2, MIN, MAX}) {
            for (int i : new int[] {0, -1, 99, MIN, MAX}) {
                due("candidate(0, " + t + ", " + i + ", 0)", x.candidate(0, t, i, 0), OUTSIDE);
            }
        }
        // the fourth is there by t 1, not by t 0
        due("candidate(0, 0, 3, 0)", x.candidate(0, 0, 3, 0), UNKNOWN);
        due("candidate(0, 1, 3, 0)", x.candidate(0, 1, 3, 0), 10);
        due("candidate(0, 1, 3, 1)", x.candidate(0, 1, 3, 1), PLUS - 11);
        due("candidate(0, 1, 3, 2)", x.candidate(0, 1, 3, 2), 4);
    }

    private static void candidateRefused() {
        RepeaterWires x = branched();
        for (int v : new int[] {-1, 4, MIN, MAX}) due("candidate(" + v + ", 0, 0, 0)", x.candidate(v, 0, 0, 0), UNKNOWN);
        for (int i : new int[] {-1, 3, MIN, MAX}) due("candidate(0, 0, " + i + ", 0)", x.candidate(0, 0, i, 0), UNKNOWN);
        for (int what : new int[] {-1, 3, MIN, MAX}) {
            due("candidate(0, 0, 2, " + what + ")", x.candidate(0, 0, 2, what), OUTSIDE);
        }
        due("candidate(0, 0, 2, 0)", x.candidate(0, 0, 2, 0), 12);
        due("candidate(0, 0, 2, 2)", x.candidate(0, 0, 2, 2), 4);
    }

    private static void pointRefused() {
        RepeaterWires x = branched();
        for (int i : new int[] {-1, 3, MIN, MAX}) due("point(" + i + ", 0)", x.point(i, 0), UNKNOWN);
        for (int what : new int[] {-1, 2, MIN, MAX}) due("point(2, " + what + ")", x.point(2, what), OUTSIDE);
        due("point(0, 0)", x.point(0, 0), 4);
        due("point(2, 1)", x.point(2, 1), PLUS - 8);
    }

    private static void bestForJustThat() {
        RepeaterWires x = branched();
        // POINTS 4: -29, 8: -28, 11: -8
        int[][] due = {{4, -29}, {5, -29}, {7, -29}, {8, -28}, {9, -28}, {10, -28}, {11, -8}, {12, -8}, {MAX, -8}};
        for (int[] d : due) due("best(" + d[0] + ")", x.best(d[0]), PLUS + d[1]);
        due("best(0), the SOURCE alone", new RepeaterWires().best(0), PLUS + NEVER);
        due("best(MAX), the SOURCE alone", new RepeaterWires().best(MAX), PLUS + NEVER);
        due("best(0), no KINDS", star(5, 0, 0).best(0), PLUS + 90);
    }

    private static void bestOfNone() {
        RepeaterWires x = branched();
        due("best(0), too little", x.best(0), NONE);
        due("best(3), too little by 1", x.best(3), NONE);
        x.drop(2);
        due("best(MAX), no way is right", x.best(MAX), NONE);
    }

    private static void bestBelowNought() {
        RepeaterWires x = branched();
        due("best(-1)", x.best(-1), OUTSIDE);
        due("best(MIN)", x.best(MIN), OUTSIDE);
        x.drop(2);
        due("best(-1), no way is right", x.best(-1), OUTSIDE);
        due("best(-1), the SOURCE alone", new RepeaterWires().best(-1), OUTSIDE);
    }

    private static void leastForJustThat() {
        RepeaterWires x = branched();
        int[][] due = {{-30, 4}, {-29, 4}, {-28, 8}, {-27, 11}, {-9, 11}, {-8, 11}, {-7, NONE}, {0, NONE}};
        for (int[] d : due) due("least(" + d[0] + ")", x.least(d[0]), d[1]);
        due("least(90), no KINDS", star(5, 0, 0).least(90), 0);
        due("least(91), no KINDS", star(5, 0, 0).least(91), NONE);
    }

    private static void leastOfNone() {
        RepeaterWires x = branched();
        due("least(9999)", x.least(9999), NONE);
        x.drop(2);
        due("least(-9999), no way is right", x.least(-9999), NONE);
    }

    private static void leastOfAny() {
        RepeaterWires x = branched();
        due("least(MIN)", x.least(MIN), 4);
        due("least(MAX)", x.least(MAX), NONE);
        // below 0 is asked for like any other: the refusals' numbers, too
        due("least(UNKNOWN)", x.least(UNKNOWN), 4);
        due("least(-1)", x.least(-1), NONE);
        RepeaterWires alone = new RepeaterWires();
        due("least(900000), the SOURCE alone", alone.least(NEVER), 0);
        due("least(900001), the SOURCE alone", alone.least(NEVER + 1), NONE);
        due("least(MIN), the SOURCE alone", alone.least(MIN), 0);
    }

    private static void wouldOfAny() {
        RepeaterWires x = branched();
        due("would(1, 0), as it is", x.would(1, 0), PLUS - 34);
        due("would(1, 1)", x.would(1, 1), PLUS - 9);
        due("would(1, 2)", x.would(1, 2), PLUS - 25);
        due("would(3, 2)", x.would(3, 2), PLUS - 29);
        x.place(1, 1);
        due("would(1, 1), as it is", x.would(1, 1), PLUS - 9);
        due("would(1, 0)", x.would(1, 0), PLUS - 34);
        due("would(1, 2)", x.would(1, 2), PLUS - 25);
    }

    private static void wouldBeWrong() {
        RepeaterWires x = chain(1, 0, 0);
        x.kind(1, 1, 0, 5, 0, 1);
        due("told(7)", x.told(7), 0);
        due("would(1, 1)", x.would(1, 1), PLUS + 100 - 2 - 5);
        x.place(1, 1);
        due("told(7)", x.told(7), 2);
        due("would(1, 1)", x.would(1, 1), PLUS + 93);
        due("would(1, 0)", x.would(1, 0), PLUS + 98);
    }

    private static void wouldAlone() {
        RepeaterWires x = branched();
        String was = picture(x);
        for (int v = 1; v <= 3; v++) {
            for (int k = 0; k <= 2; k++) x.would(v, k);
        }
        same("would()", picture(x), was);
    }

    private static void wouldRefused() {
        RepeaterWires x = branched();
        for (int v : new int[] {-1, 4, MIN, MAX}) due("would(" + v + ", 1)", x.would(v, 1), UNKNOWN);
        for (int k : new int[] {-1, 3, 4, MIN, MAX}) {
            due("would(1, " + k + ")", x.would(1, k), UNKNOWN);
            due("would(0, " + k + ")", x.would(0, k), UNKNOWN);
        }
        for (int k = 0; k <= 2; k++) due("would(0, " + k + ")", x.would(0, k), NOT);
        due("would(0, 0), the SOURCE alone", new RepeaterWires().would(0, 0), NOT);
    }

    // ---- deeds: the net

    private static void nodeNumbers() {
        RepeaterWires x = new RepeaterWires();
        for (int v = 1; v <= 5; v++) due("node(0, 0, 0)", x.node(0, 0, 0), v);
        x.take();
        x.take();
        due("node(3, 9, 9), the number is free again", x.node(3, 9, 9), 4);
        x.undo(1);
        due("node(0, 0, 9)", x.node(0, 0, 9), 4);
        atAll(x, 4, 0, 0, 9, 1, 1, 100, 0, 0);
    }

    private static void nodeRefused() {
        RepeaterWires x = chain(4, 1, 1);
        for (int v : new int[] {-1, 5, MIN, MAX}) due("node(" + v + ", 1, 1)", x.node(v, 1, 1), UNKNOWN);
        for (int n : new int[] {-1, 10, MIN, MAX}) {
            due("node(0, " + n + ", 1)", x.node(0, n, 1), OUTSIDE);
            due("node(0, 1, " + n + ")", x.node(0, 1, n), OUTSIDE);
        }
        due("node(4, 1, 1), the sixth", x.node(4, 1, 1), 5);
        for (int v = 0; v <= 5; v++) due("node(" + v + ", 1, 1), the seventh", x.node(v, 1, 1), FULL);
        due("told(0)", x.told(0), 6);
        due("told(13)", x.told(13), 5);
        x.take();
        due("node(0, 1, 1), there is room again", x.node(0, 1, 1), 5);
    }

    private static void endOrNot() {
        RepeaterWires x = branched();
        due("end(1, 9, 9, 1), no END", x.end(1, 9, 9, 1), 0);
        due("end(2, 9, 9, 1)", x.end(2, 9, 9, 1), 1);
        due("end(3, 1, 0, 0)", x.end(3, 1, 0, 0), 1);
        x.node(3, 0, 0);
        due("end(3, 1, 0, 0), no END any more", x.end(3, 1, 0, 0), 0);
        x.take();
        due("end(3, 1, 0, 0), an END again", x.end(3, 1, 0, 0), 1);
        due("told(13)", x.told(13), 7 + 7);
    }

    private static void endRefused() {
        RepeaterWires x = branched();
        for (int v : new int[] {-1, 4, MIN, MAX}) due("end(" + v + ", 1, 1, 1)", x.end(v, 1, 1, 1), UNKNOWN);
        // of an END, and of one that is none
        for (int v = 1; v <= 2; v++) {
            for (int n : new int[] {0, 10, -1, MIN, MAX}) due("end(" + v + ", " + n + ", 1, 1)", x.end(v, n, 1, 1), OUTSIDE);
            for (int n : new int[] {-1, 10000, MIN, MAX}) due("end(" + v + ", 1, " + n + ", 1)", x.end(v, 1, n, 1), OUTSIDE);
            for (int n : new int[] {-1, 2, MIN, MAX}) due("end(" + v + ", 1, 1, " + n + ")", x.end(v, 1, 1, n), OUTSIDE);
        }
        due("end(0, 1, 0, 0)", x.end(0, 1, 0, 0), NOT);
        due("end(0, 9, 9999, 1)", x.end(0, 9, 9999, 1), NOT);
        due("end(0, 1, 1, 1), the SOURCE alone", new RepeaterWires().end(0, 1, 1, 1), NOT);
    }

    private static void wireTime() {
        RepeaterWires x = branched();
        due("wire(3, 5, 0, 1), as it is", x.wire(3, 5, 0, 1), 92);
        due("wire(3, 0, 0, 1)", x.wire(3, 0, 0, 1), 72);
        // SOURCE 26 and 18, WIRE 1 is 6 and 4 times 19, its own 81 and 2 times 18
        due("wire(3, 9, 9, 1)", x.wire(3, 9, 9, 1), 44 + 6 + 76 + 81 + 36);
        due("wire(3, 9, 9, 2)", x.wire(3, 9, 9, 2), 62 + 6 + 112 + 81 + 18);
        due("at(3, 10)", x.at(3, 10), 62 + 6 + 112 + 81 + 18);
        // with a REPEATER at it that, too: OWN 3 and 2 times 1 times 2
        x.place(3, 1);
        due("wire(3, 0, 0, 2)", x.wire(3, 0, 0, 2), 72 + 3 + 4);
        due("wire(1, 0, 0, 2), no END", x.wire(1, 0, 0, 2), 20);
    }

    private static void wireRefused() {
        RepeaterWires x = branched();
        for (int v : new int[] {-1, 4, MIN, MAX}) due("wire(" + v + ", 1, 1, 1)", x.wire(v, 1, 1, 1), UNKNOWN);
        for (int n : new int[] {-1, 10, MIN, MAX}) {
            due("wire(1, " + n + ", 1, 1)", x.wire(1, n, 1, 1), OUTSIDE);
            due("wire(1, 1, " + n + ", 1)", x.wire(1, 1, n, 1), OUTSIDE);
        }
        for (int w : new int[] {-1, 0, 3, MIN, MAX}) due("wire(1, 1, 1, " + w + ")", x.wire(1, 1, 1, w), OUTSIDE);
        due("wire(0, 0, 0, 1)", x.wire(0, 0, 0, 1), NOT);
        due("wire(0, 9, 9, 2)", x.wire(0, 9, 9, 2), NOT);
        due("wire(0, 1, 1, 1), the SOURCE alone", new RepeaterWires().wire(0, 1, 1, 1), NOT);
    }

    private static void pullWas() {
        RepeaterWires x = new RepeaterWires();
        due("pull(0), 1 at first", x.pull(0), 1);
        due("pull(9)", x.pull(9), 0);
        due("pull(9), as it is", x.pull(9), 9);
        due("pull(1)", x.pull(1), 9);
        x.undo(2);
        due("pull(2), undone", x.pull(2), 9);
    }

    private static void pullRefused() {
        RepeaterWires x = new RepeaterWires();
        for (int p : new int[] {-1, 10, MIN, MAX}) due("pull(" + p + ")", x.pull(p), OUTSIDE);
        due("told(2)", x.told(2), 1);
        due("told(13)", x.told(13), 0);
    }

    private static void takeLeaves() {
        RepeaterWires x = star(5, 0, 0);
        for (int left = 5; left >= 1; left--) {
            due("take()", x.take(), left);
            due("at(" + left + ", 0)", x.at(left, 0), UNKNOWN);
            due("at(" + (left - 1) + ", 7)", x.at(left - 1, 7), 0);
        }
    }

    private static void takeTheSource() {
        RepeaterWires x = new RepeaterWires();
        due("take()", x.take(), NOT);
        x.node(0, 0, 0);
        due("take()", x.take(), 1);
        due("take()", x.take(), NOT);
        due("told(0)", x.told(0), 1);
        due("told(13)", x.told(13), 2);
    }

    private static void driftOneToSix() {
        for (int n = 1; n <= 6; n++) {
            RepeaterWires x = new RepeaterWires();
            due("drift(" + n + ")", x.drift(n), Math.min(n + 1, 6));
            due("told(0)", x.told(0), Math.min(n + 1, 6));
        }
        RepeaterWires x = star(3, 0, 0);
        due("drift(1), N 4", x.drift(1), 5);
        due("drift(6), N 5", x.drift(6), 6);
        due("drift(6), N 6", x.drift(6), 6);
    }

    private static void driftRefused() {
        RepeaterWires x = new RepeaterWires();
        for (int n : new int[] {-1, 0, 7, MIN, MAX}) due("drift(" + n + ")", x.drift(n), OUTSIDE);
        due("told(0)", x.told(0), 1);
        due("told(14)", x.told(14), 0);
        RepeaterWires full = star(5, 0, 0);
        due("drift(0), FULL", full.drift(0), OUTSIDE);
        due("drift(7), FULL", full.drift(7), OUTSIDE);
    }

    private static void undoOneToSixteen() {
        for (int n = 1; n <= 16; n++) {
            RepeaterWires x = new RepeaterWires();
            for (int i = 0; i < 16; i++) x.pull(i % 10);
            due("undo(" + n + ")", x.undo(n), 16 - n);
            due("told(13)", x.told(13), 16 - n);
            due("told(2)", x.told(2), n == 16 ? 1 : (15 - n) % 10);
        }
    }

    private static void undoRefused() {
        RepeaterWires x = branched();
        for (int n : new int[] {-1, 0, 17, MIN, MAX}) due("undo(" + n + ")", x.undo(n), OUTSIDE);
        for (int n = 8; n <= 16; n++) due("undo(" + n + "), 7 can be", x.undo(n), NOT);
        due("told(13)", x.told(13), 7);
        due("undo(7)", x.undo(7), 0);
        for (int n = 1; n <= 16; n++) due("undo(" + n + "), none can be", x.undo(n), NOT);
    }

    // ---- deeds: REPEATERS

    private static void kindWasThere() {
        RepeaterWires x = new RepeaterWires();
        for (int k = 1; k <= 3; k++) {
            due("kind(" + k + ", ..), new", x.kind(k, 1, 1, 1, 1, 1), 0);
            due("kind(" + k + ", ..), there", x.kind(k, 2, 2, 2, 2, 0), 1);
            kindIs(x, k, 2, 2, 2, 2, 0);
            x.drop(k);
            due("kind(" + k + ", ..), dropped", x.kind(k, 3, 3, 3, 3, 1), 0);
            x.undo(2);
            due("kind(" + k + ", ..), its drop undone", x.kind(k, 4, 4, 4, 4, 1), 1);
        }
        due("told(3)", x.told(3), 14);
    }

    private static void kindWhilePlaced() {
        RepeaterWires x = chain(1, 0, 0);
        x.pull(1);
        x.kind(2, 9, 0, 9, 9, 1);
        x.place(1, 2);
        due("told(5)", x.told(5), PLUS + 100 - 18 - 9);
        due("kind(2, 1, 0, 0, 99, 0)", x.kind(2, 1, 0, 0, 99, 0), 1);
        due("at(1, 7)", x.at(1, 7), 2);
        due("at(1, 9)", x.at(1, 9), 1);
        due("told(4)", x.told(4), 99);
        due("told(5)", x.told(5), PLUS + 100 - 2);
        due("told(7)", x.told(7), 0);
    }

    private static void kindRefused() {
        RepeaterWires x = new RepeaterWires();
        for (int k : new int[] {-1, 0, 4, MIN, MAX}) due("kind(" + k + ", ..)", x.kind(k, 1, 1, 1, 1, 1), UNKNOWN);
        for (int n : new int[] {-1, 0, 10, MIN, MAX}) due("kind(1, " + n + ", ..)", x.kind(1, n, 1, 1, 1, 1), OUTSIDE);
        for (int n : new int[] {-1, 10, MIN, MAX}) due("PULL " + n, x.kind(1, 1, n, 1, 1, 1), OUTSIDE);
        for (int n : new int[] {-1, 100, MIN, MAX}) {
            due("OWN " + n, x.kind(1, 1, 1, n, 1, 1), OUTSIDE);
            due("COST " + n, x.kind(1, 1, 1, 1, n, 1), OUTSIDE);
        }
        for (int n : new int[] {-1, 2, MIN, MAX}) due("TURNS " + n, x.kind(1, 1, 1, 1, 1, n), OUTSIDE);
        due("told(3)", x.told(3), 0);
        due("told(13)", x.told(13), 0);
    }

    private static void dropLeaves() {
        RepeaterWires x = new RepeaterWires();
        for (int k = 1; k <= 3; k++) x.kind(k, 1, 1, 1, 1, 1);
        due("drop(2)", x.drop(2), 2);
        due("told(3)", x.told(3), 2 + 8);
        due("drop(3)", x.drop(3), 1);
        due("told(3)", x.told(3), 2);
        due("drop(1)", x.drop(1), 0);
        due("told(3)", x.told(3), 0);
    }

    private static void dropRefused() {
        RepeaterWires x = branched();
        for (int k : new int[] {-1, 0, 3, 4, 33, MIN, MAX}) due("drop(" + k + ")", x.drop(k), UNKNOWN);
        for (int v = 1; v <= 3; v++) {
            for (int k = 1; k <= 2; k++) {
                x.place(v, k);
                due("drop(" + k + "), PLACED at " + v, x.drop(k), NOT);
                due("kindAt(" + k + ", 3)", x.kindAt(k, 3), k == 1 ? 7 : 4);
            }
            x.place(v, 0);
        }
        due("told(3)", x.told(3), 2 + 4);
    }

    private static void dropWhenFree() {
        RepeaterWires x = branched();
        x.place(1, 1);
        x.place(3, 1);
        x.place(1, 0);
        due("drop(1), still at 3", x.drop(1), NOT);
        x.take();
        due("drop(1), 3 has gone", x.drop(1), 1);
        // with both undone it stands at 3 again, and is there
        x.undo(2);
        due("at(3, 7)", x.at(3, 7), 1);
        due("drop(1), at 3 again", x.drop(1), NOT);
        x.place(3, 2);
        due("drop(1), another one stands there", x.drop(1), 1);
    }

    private static void placeWas() {
        RepeaterWires x = branched();
        due("place(1, 0), nothing was", x.place(1, 0), 0);
        due("place(1, 2)", x.place(1, 2), 0);
        due("place(1, 2), as it is", x.place(1, 2), 2);
        due("place(1, 1)", x.place(1, 1), 2);
        due("place(1, 0)", x.place(1, 0), 1);
        due("place(2, 1), another NODE", x.place(2, 1), 0);
        due("place(3, 1), the same KIND twice", x.place(3, 1), 0);
        due("told(4)", x.told(4), 14);
    }

    private static void placeRefused() {
        RepeaterWires x = branched();
        for (int v : new int[] {-1, 4, MIN, MAX}) due("place(" + v + ", 1)", x.place(v, 1), UNKNOWN);
        for (int k : new int[] {-1, 3, 4, MIN, MAX}) {
            due("place(1, " + k + ")", x.place(1, k), UNKNOWN);
            due("place(0, " + k + ")", x.place(0, k), UNKNOWN);
        }
        for (int k = 0; k <= 2; k++) due("place(0, " + k + ")", x.place(0, k), NOT);
        due("place(0, 0), the SOURCE alone", new RepeaterWires().place(0, 0), NOT);
        due("told(13)", x.told(13), 7);
    }

    private static void changeMade() {
        RepeaterWires x = branched();
        due("told(10)", x.told(10), 11);
        due("change()", x.change(), PLUS - 9);
        due("told(5)", x.told(5), PLUS - 9);
        due("at(1, 7)", x.at(1, 7), 1);
        due("told(13)", x.told(13), 8);
        due("undo(1)", x.undo(1), 7);
        due("at(1, 7)", x.at(1, 7), 0);
        // a change for the worse is made, too, if there is no other
        RepeaterWires y = chain(1, 0, 0);
        y.kind(3, 9, 9, 99, 99, 0);
        due("change()", y.change(), PLUS + 100 - 18 - 99 - 18);
        due("at(1, 7)", y.at(1, 7), 3);
        due("change(), back again", y.change(), PLUS + 98);
        due("at(1, 7)", y.at(1, 7), 0);
    }

    private static void changeRefused() {
        RepeaterWires x = new RepeaterWires();
        due("change(), the SOURCE alone", x.change(), NOT);
        x.kind(1, 1, 0, 0, 0, 0);
        due("change(), the SOURCE alone, one KIND", x.change(), NOT);
        RepeaterWires y = chain(3, 1, 1);
        due("change(), no KINDS", y.change(), NOT);
        y.kind(1, 1, 0, 0, 0, 1);
        due("change(), it would be WRONG", y.change(), NOT);
        due("told(13)", y.told(13), 4);
    }

    // ---- THE BOOK, THE SEED, IMAGES

    private static void writeAny() {
        RepeaterWires x = new RepeaterWires();
        int n = 0;
        for (int time : new int[] {0, MIN, MAX, -1, UNKNOWN, 1000001}) due("write(0, " + time + ")", x.write(0, time), ++n);
        due("told(11)", x.told(11), 6);
        due("told(12)", x.told(12), 1);
    }

    private static void writeTwenty() {
        RepeaterWires x = branched();
        for (int i = 1; i <= 20; i++) due("write(" + i % 4 + ", 0)", x.write(i % 4, 0), i);
        for (int v = 0; v <= 3; v++) due("write(" + v + ", 0), FULL", x.write(v, 0), FULL);
        due("told(11)", x.told(11), 20);
    }

    private static void writeRefused() {
        RepeaterWires x = branched();
        for (int v : new int[] {-1, 4, 5, MIN, MAX}) due("write(" + v + ", 0)", x.write(v, 0), UNKNOWN);
        due("told(11)", x.told(11), 0);
        due("write(3, 0)", x.write(3, 0), 1);
    }

    private static void tearHad() {
        RepeaterWires x = new RepeaterWires();
        due("tear(), empty", x.tear(), 0);
        x.write(0, 1);
        due("tear()", x.tear(), 1);
        due("tear(), empty again", x.tear(), 0);
        for (int i = 0; i < 20; i++) x.write(0, 0);
        due("tear(), FULL", x.tear(), 20);
        due("told(11)", x.told(11), 0);
        due("told(12)", x.told(12), NONE);
    }

    private static void seedWas() {
        RepeaterWires x = new RepeaterWires();
        due("seed(2147483647), 0 at first", x.seed(2147483647), 0);
        due("seed(0)", x.seed(0), 2147483647);
        due("seed(1)", x.seed(1), 0);
        due("told(14)", x.told(14), 1);
        x.drift(1);
        due("seed(7), six DRAWS on", x.seed(7), 368800899);
    }

    private static void seedRefused() {
        RepeaterWires x = new RepeaterWires();
        x.seed(5);
        for (int v : new int[] {-1, -2, MIN, MIN + 1}) due("seed(" + v + ")", x.seed(v), OUTSIDE);
        due("told(14)", x.told(14), 5);
    }

    private static void keepOne() {
        RepeaterWires x = branched();
        due("keep(0)", x.keep(0), 1);
        due("told(13)", x.told(13), 0);
        due("keep(0), anew", x.keep(0), 1);
        x.pull(4);
        due("keep(1)", x.keep(1), 1);
        due("told(13)", x.told(13), 0);
        due("undo(1)", x.undo(1), NOT);
        due("told(2)", x.told(2), 4);
    }

    private static void keepRefused() {
        RepeaterWires x = branched();
        for (int i : new int[] {-1, 2, MIN, MAX}) due("keep(" + i + ")", x.keep(i), UNKNOWN);
        due("told(13), what can be undone stays", x.told(13), 7);
        due("goBack(0)", x.goBack(0), NOT);
        due("goBack(1)", x.goBack(1), NOT);
    }

    private static void goBackOne() {
        RepeaterWires x = branched();
        x.keep(1);
        due("goBack(1), at once", x.goBack(1), 1);
        for (int i = 0; i < 20; i++) x.pull(i % 10);
        due("goBack(1)", x.goBack(1), 1);
        due("told(2)", x.told(2), 1);
        due("told(13)", x.told(13), 0);
        due("undo(1)", x.undo(1), NOT);
        x.pull(3);
        due("told(13)", x.told(13), 1);
        due("undo(1)", x.undo(1), 0);
        due("told(2)", x.told(2), 1);
    }

    private static void goBackRefused() {
        RepeaterWires x = branched();
        due("goBack(0), none was kept", x.goBack(0), NOT);
        due("goBack(1), none was kept", x.goBack(1), NOT);
        x.keep(0);
        x.pull(5);
        due("goBack(1), 0 was kept", x.goBack(1), NOT);
        for (int i : new int[] {-1, 2, MIN, MAX}) due("goBack(" + i + ")", x.goBack(i), UNKNOWN);
        due("told(13), what can be undone stays", x.told(13), 1);
        due("told(2)", x.told(2), 5);
        RepeaterWires y = branched();
        y.keep(1);
        due("goBack(0), 1 was kept", y.goBack(0), NOT);
    }

    /** As many as an object is used for, and the last one answers like the first. */
    private static void manyCalls() {
        RepeaterWires x = branched();
        for (int call = 8; call <= 512; call += 2) {
            x.pull(1);
            if (call < 512) due("told(5), call " + (call + 1), x.told(5), PLUS - 34);
        }
        RepeaterWires y = branched();
        for (int call = 8; call < 512; call++) y.at(call % 4, call % 13);
        due("told(8), call 512", y.told(8), 3);
    }
}
