/** For each promise of the document: ordinary inputs, the edges that it names, and wrong inputs, with answers worked out by hand. */
public final class PromiseTest extends Sheet {
    public static void main(String[] args) {
        constants();
        newObject();
        told();
        toldTies();
        at();
        kindAt();
        candidates();
        candidatesOfChains();
        points();
        bestAndLeast();
        would();
        node();
        end();
        wire();
        pull();
        kind();
        drop();
        place();
        take();
        change();
        changeTies();
        drift();
        undo();
        book();
        seed();
        images();
        refusalsChangeNothing();
        finish("PromiseTest");
    }

    private static void constants() {
        about = "promise 1";
        due("NONE", RepeaterWires.NONE, -1);
        due("PLUS", RepeaterWires.PLUS, 1000000);
        due("NEVER", RepeaterWires.NEVER, 900000);
        due("UNKNOWN", RepeaterWires.UNKNOWN, UNKNOWN);
        due("OUTSIDE", RepeaterWires.OUTSIDE, OUTSIDE);
        due("NOT", RepeaterWires.NOT, NOT);
        due("FULL", RepeaterWires.FULL, FULL);
    }

    private static void newObject() {
        about = "promise 1";
        RepeaterWires x = new RepeaterWires();
        toldAll(x, 1, 0, 1, 0, 0, 1900000, NONE, 0, 1, 1900000, NONE, 0, NONE, 0, 0);
        atAll(x, 0, NONE, NONE, NONE, NONE, NONE, NONE, NONE, 0, 0, 0, 0, NONE, 0);
        due("at(1, 0)", x.at(1, 0), UNKNOWN);
        for (int k = 0; k <= 4; k++) due("kindAt(" + k + ", 0)", x.kindAt(k, 0), UNKNOWN);
        due("goBack(0)", x.goBack(0), NOT);
        due("goBack(1)", x.goBack(1), NOT);
        due("undo(1)", x.undo(1), NOT);
        due("tear()", x.tear(), 0);
        RepeaterWires y = new RepeaterWires();
        x.node(0, 1, 1);
        x.kind(1, 1, 1, 1, 1, 1);
        toldAll(y, 1, 0, 1, 0, 0, 1900000, NONE, 0, 1, 1900000, NONE, 0, NONE, 0, 0);
    }

    private static void told() {
        about = "promise 2";
        RepeaterWires x = branched();
        toldAll(x, 4, 12, 1, 6, 0, 999966, 2, 8, 3, 999980, 11, 0, NONE, 7, 0);
        x.place(3, 2);
        // by the REPEATER less load ahead of it: TIME 24, 66, 78, 89
        toldAll(x, 4, 12, 1, 6, 4, 999971, 3, 0, 3);
        due("told(13)", x.told(13), 8);
        due("told(-1)", x.told(-1), OUTSIDE);
        due("told(15)", x.told(15), OUTSIDE);
        due("told(MIN)", x.told(MIN), OUTSIDE);
        due("told(MAX)", x.told(MAX), OUTSIDE);
    }

    private static void toldTies() {
        about = "promise 2";
        RepeaterWires x = twins(5, 5, 9);
        due("told(6), both ENDS alike", x.told(6), 1);
        x.end(1, 1, 101, 0);
        due("told(6), 2 is worse", x.told(6), 2);
        due("told(5)", x.told(5), 1000100);
        // a wide wire loads more and holds back less: here R 0, so the narrow one does best
        RepeaterWires y = new RepeaterWires();
        y.node(0, 0, 9);
        y.wire(1, 0, 9, 2);
        due("told(5)", y.told(5), 1000100 - 2 * 19);
        due("told(9)", y.told(9), 1000100 - 2 * 10);
        due("told(9) leaves the WIDTHS", y.at(1, 3), 2);
        // each of the WIRES, the last one too, has to be wide
        RepeaterWires z = new RepeaterWires();
        z.pull(0);
        for (int v = 1; v < 6; v++) z.node(0, 5, 0);
        due("told(5)", z.told(5), 1000090);
        due("told(9)", z.told(9), 1000095);
        for (int v = 1; v < 5; v++) z.wire(v, 5, 0, 2);
        due("told(5)", z.told(5), 1000090);
        due("told(6)", z.told(6), 5);
        z.kind(3, 1, 0, 0, 8, 0);
        z.end(5, 9, 100, 0);
        due("told(5)", z.told(5), 1000010);
        due("told(10)", z.told(10), 53);
        due("change()", z.change(), 1000090);
        due("at(5, 7)", z.at(5, 7), 3);
        due("drop(3)", z.drop(3), NOT);
    }

    private static void at() {
        about = "promise 3";
        RepeaterWires x = branched();
        atAll(x, 0, NONE, NONE, NONE, NONE, NONE, NONE, NONE, 0, 13, 13, 26, NONE, 0);
        atAll(x, 1, 0, 2, 3, 1, NONE, NONE, NONE, 0, 10, 10, 72, NONE, 0);
        atAll(x, 2, 1, 1, 4, 1, 4, 50, 0, 0, 4, 4, 84, 999966, 0);
        atAll(x, 3, 1, 5, 0, 1, 2, 60, 1, 0, 2, 2, 92, 999968, 0);
        x.place(1, 2);
        x.wire(2, 1, 4, 2);
        // BEARS of 1: 4 * 2 + 4, and 2; it SHOWS 1
        atAll(x, 0, NONE, NONE, NONE, NONE, NONE, NONE, NONE, 0, 4, 4, 8, NONE, 0);
        atAll(x, 1, 0, 2, 3, 1, NONE, NONE, NONE, 2, 14, 1, 8 + 6 + 4 + 5 + 56, NONE, 1);
        atAll(x, 2, 1, 1, 4, 2, 4, 50, 0, 0, 4, 4, 79 + 4 + 4, 1000000 + 50 - 87, 1);
        atAll(x, 3, 1, 5, 0, 1, 2, 60, 1, 0, 2, 2, 79 + 20, 1000000 + 60 - 99, 1);
        x.place(3, 2);
        due("at(3, 12), turned twice", x.at(3, 12), 0);
        x.place(3, 1);
        due("at(3, 12), KIND 1 turns nothing", x.at(3, 12), 1);
        due("at(4, 0)", x.at(4, 0), UNKNOWN);
        due("at(-1, 0)", x.at(-1, 0), UNKNOWN);
        due("at(MIN, MIN)", x.at(MIN, MIN), UNKNOWN);
        due("at(MAX, 13)", x.at(MAX, 13), UNKNOWN);
        due("at(0, 13)", x.at(0, 13), OUTSIDE);
        due("at(3, -1)", x.at(3, -1), OUTSIDE);
        due("at(0, MIN)", x.at(0, MIN), OUTSIDE);
    }

    private static void kindAt() {
        about = "promise 4";
        RepeaterWires x = branched();
        int[] first = {2, 1, 3, 7, 0};
        int[] second = {1, 2, 5, 4, 1};
        for (int what = 0; what < 5; what++) {
            due("kindAt(1, " + what + ")", x.kindAt(1, what), first[what]);
            due("kindAt(2, " + what + ")", x.kindAt(2, what), second[what]);
            due("kindAt(3, " + what + ")", x.kindAt(3, what), UNKNOWN);
            due("kindAt(0, " + what + ")", x.kindAt(0, what), UNKNOWN);
        }
        due("kindAt(1, 5)", x.kindAt(1, 5), OUTSIDE);
        due("kindAt(1, -1)", x.kindAt(1, -1), OUTSIDE);
        due("kindAt(3, 5)", x.kindAt(3, 5), UNKNOWN);
        due("kindAt(4, 0)", x.kindAt(4, 0), UNKNOWN);
        due("kindAt(-1, 0)", x.kindAt(-1, 0), UNKNOWN);
        due("kindAt(33, 0)", x.kindAt(33, 0), UNKNOWN);
        due("kindAt(MAX, 0)", x.kindAt(MAX, 0), UNKNOWN);
        due("kindAt(MIN, 0)", x.kindAt(MIN, 0), UNKNOWN);
    }

    private static void candidates() {
        about = "promise 6";
        RepeaterWires x = branched();
        rowIs(x, 3, 0, 1, 47, 4);
        rowIs(x, 3, 1, 2, 60, 0);
        rowIs(x, 2, 0, 2, 39, 7, 4, 50, 0);
        rowIs(x, 2, 1, 1, 29, 4);
        rowIs(x, 1, 0, 1, -10, 8, 2, 16, 11, 7, 31, 11, 9, 37, 4);
        rowIs(x, 1, 1, 1, -4, 8, 1, -2, 15, 2, 6, 11, 7, 23, 4);
        rowIs(x, 0, 0, 4, -20, 8, 5, 2, 11, 12, -5, 4);
        rowIs(x, 0, 1, 4, -14, 8, 4, -12, 15, 5, -8, 11, 10, -11, 4);
        x.place(1, 1);
        rowIs(x, 1, 1, 1, -4, 8, 1, -2, 15, 2, 6, 11, 7, 23, 4);
        due("candidate(4, 0, 0, 0)", x.candidate(4, 0, 0, 0), UNKNOWN);
        due("candidate(-1, 2, 0, 9)", x.candidate(-1, 2, 0, 9), UNKNOWN);
        due("candidate(0, 2, 0, 0)", x.candidate(0, 2, 0, 0), OUTSIDE);
        due("candidate(0, 2, 99, 0)", x.candidate(0, 2, 99, 0), OUTSIDE);
        due("candidate(0, -1, -1, 0)", x.candidate(0, -1, -1, 0), OUTSIDE);
        due("candidate(0, 0, 3, 9)", x.candidate(0, 0, 3, 9), UNKNOWN);
        due("candidate(0, 0, MAX, 0)", x.candidate(0, 0, MAX, 0), UNKNOWN);
        due("candidate(0, 0, MIN, 0)", x.candidate(0, 0, MIN, 0), UNKNOWN);
        due("candidate(0, 0, 2, 3)", x.candidate(0, 0, 2, 3), OUTSIDE);
        due("candidate(0, 0, 2, -1)", x.candidate(0, 0, 2, -1), OUTSIDE);
        about = "promise 5";
        due("candidates(4, 0)", x.candidates(4, 0), UNKNOWN);
        due("candidates(4, 2)", x.candidates(4, 2), UNKNOWN);
        due("candidates(-1, 0)", x.candidates(-1, 0), UNKNOWN);
        due("candidates(0, 2)", x.candidates(0, 2), OUTSIDE);
        due("candidates(0, -1)", x.candidates(0, -1), OUTSIDE);
        RepeaterWires alone = new RepeaterWires();
        alone.kind(1, 1, 0, 0, 0, 1);
        rowIs(alone, 0, 0, 0, 900000, 0);
        rowIs(alone, 0, 1, 0, 900000, 0);
        // without a KIND that turns, nothing is right if it comes the wrong way round
        RepeaterWires plain = new RepeaterWires();
        plain.node(0, 0, 0);
        rowIs(plain, 1, 0, 1, 100, 0);
        rowIs(plain, 1, 1);
        rowIs(plain, 0, 1);
    }

    private static void candidatesOfChains() {
        about = "promise 6";
        // three numbers alike by two KINDS: told once
        RepeaterWires x = new RepeaterWires();
        x.node(0, 1, 1);
        x.end(1, 5, 100, 0);
        x.kind(1, 3, 1, 2, 6, 0);
        x.kind(2, 3, 1, 2, 6, 0);
        rowIs(x, 1, 0, 3, 88, 6, 5, 100, 0);
        // of like SHOWS and COST the one of more SLACK is left
        x.kind(2, 3, 1, 1, 6, 0);
        rowIs(x, 1, 0, 3, 89, 6, 5, 100, 0);
        // one that differs in COST alone is beaten
        x.kind(2, 3, 1, 2, 5, 0);
        rowIs(x, 1, 0, 3, 88, 5, 5, 100, 0);
        // the CANDIDATES are of all KINDS that there are now
        x.drop(2);
        rowIs(x, 1, 0, 3, 88, 6, 5, 100, 0);
        x.undo(1);
        rowIs(x, 1, 0, 3, 88, 5, 5, 100, 0);
        x.wire(1, 1, 1, 2);
        rowIs(x, 0, 0, 5, 88 - 1 - 3, 5, 7, 100 - 1 - 5, 0);
        // the better one of like SHOWS and COST first, then the lesser one; and KIND 3 is looked at, too
        x.kind(1, 3, 1, 1, 6, 0);
        x.kind(2, 3, 1, 2, 6, 0);
        x.kind(3, 1, 0, 0, 9, 0);
        rowIs(x, 1, 0, 1, 100, 9, 3, 89, 6, 5, 100, 0);
    }

    private static void points() {
        about = "promise 7";
        RepeaterWires x = branched();
        pointsAre(x, 4, -29, 8, -28, 11, -8);
        x.pull(0);
        pointsAre(x, 4, -5, 11, 2);
        x.pull(9);
        pointsAre(x, 4, -221, 8, -92, 11, -88);
        due("point(-1, 0)", x.point(-1, 0), UNKNOWN);
        due("point(3, 9)", x.point(3, 9), UNKNOWN);
        due("point(MIN, 0)", x.point(MIN, 0), UNKNOWN);
        due("point(MAX, 0)", x.point(MAX, 0), UNKNOWN);
        due("point(0, 2)", x.point(0, 2), OUTSIDE);
        due("point(2, -1)", x.point(2, -1), OUTSIDE);
        x.drop(2);
        pointsAre(x);
        pointsAre(new RepeaterWires(), 0, 900000);
    }

    private static void bestAndLeast() {
        RepeaterWires x = branched();
        about = "promise 8";
        due("best(-1)", x.best(-1), OUTSIDE);
        due("best(MIN)", x.best(MIN), OUTSIDE);
        due("best(0)", x.best(0), NONE);
        due("best(3)", x.best(3), NONE);
        due("best(4)", x.best(4), 999971);
        due("best(7)", x.best(7), 999971);
        due("best(8)", x.best(8), 999972);
        due("best(10)", x.best(10), 999972);
        due("best(11)", x.best(11), 999992);
        due("best(MAX)", x.best(MAX), 999992);
        about = "promise 9";
        due("least(MIN)", x.least(MIN), 4);
        due("least(-29)", x.least(-29), 4);
        due("least(-28)", x.least(-28), 8);
        due("least(-27)", x.least(-27), 11);
        due("least(-8)", x.least(-8), 11);
        due("least(-7)", x.least(-7), NONE);
        due("least(MAX)", x.least(MAX), NONE);
        x.drop(2);
        due("least(MIN), nothing is right", x.least(MIN), NONE);
        due("best(MAX), nothing is right", x.best(MAX), NONE);
        RepeaterWires alone = new RepeaterWires();
        due("best(0) of the SOURCE alone", alone.best(0), 1900000);
        due("least(900000) of the SOURCE alone", alone.least(900000), 0);
        due("least(900001) of the SOURCE alone", alone.least(900001), NONE);
    }

    private static void would() {
        about = "promise 10";
        RepeaterWires x = branched();
        String was = picture(x);
        due("would(1, 1)", x.would(1, 1), 999991);
        due("would(1, 2)", x.would(1, 2), 999975);
        due("would(2, 1)", x.would(2, 1), 999971);
        due("would(3, 2)", x.would(3, 2), 999971);
        due("would(3, 0)", x.would(3, 0), 999966);
        due("would(1, 3)", x.would(1, 3), UNKNOWN);
        due("would(1, 4)", x.would(1, 4), UNKNOWN);
        due("would(1, -1)", x.would(1, -1), UNKNOWN);
        due("would(4, 0)", x.would(4, 0), UNKNOWN);
        due("would(-1, 0)", x.would(-1, 0), UNKNOWN);
        due("would(0, 3)", x.would(0, 3), UNKNOWN);
        due("would(0, 0)", x.would(0, 0), NOT);
        due("would(0, 1)", x.would(0, 1), NOT);
        same("would()", picture(x), was);
    }

    private static void node() {
        about = "promise 11";
        RepeaterWires x = new RepeaterWires();
        due("node(1, 0, 0)", x.node(1, 0, 0), UNKNOWN);
        due("node(-1, 10, 0)", x.node(-1, 10, 0), UNKNOWN);
        due("node(0, 10, 0)", x.node(0, 10, 0), OUTSIDE);
        due("node(0, -1, 0)", x.node(0, -1, 0), OUTSIDE);
        due("node(0, 0, 10)", x.node(0, 0, 10), OUTSIDE);
        due("node(0, 0, -1)", x.node(0, 0, -1), OUTSIDE);
        due("node(0, 9, 9)", x.node(0, 9, 9), 1);
        atAll(x, 1, 0, 9, 9, 1, 1, 100, 0, 0, 1, 1, 20 + 81 + 18, 1000000 + 100 - 119, 0);
        due("node(1, 0, 0)", x.node(1, 0, 0), 2);
        due("told(1), 1 is no END now", x.told(1), 4);
        due("node(0, 1, 2)", x.node(0, 1, 2), 3);
        due("node(3, 1, 2)", x.node(3, 1, 2), 4);
        due("node(2, 1, 2)", x.node(2, 1, 2), 5);
        due("told(1)", x.told(1), 48);
        due("node(0, 1, 2), six are there", x.node(0, 1, 2), FULL);
        due("node(0, 10, 2), six are there", x.node(0, 10, 2), OUTSIDE);
        due("node(6, 10, 2), six are there", x.node(6, 10, 2), UNKNOWN);
        due("told(0)", x.told(0), 6);
        due("told(13)", x.told(13), 5);
        // what a NODE of the same number had has gone with it
        x.kind(1, 1, 1, 1, 1, 1);
        x.end(5, 9, 9, 1);
        x.wire(5, 3, 3, 2);
        x.place(5, 1);
        x.take();
        due("node(0, 4, 5)", x.node(0, 4, 5), 5);
        atAll(x, 5, 0, 4, 5, 1, 1, 100, 0, 0, 1, 1);
    }

    private static void end() {
        about = "promise 12";
        RepeaterWires x = branched();
        due("end(4, 1, 1, 0)", x.end(4, 1, 1, 0), UNKNOWN);
        due("end(-1, 0, 1, 0)", x.end(-1, 0, 1, 0), UNKNOWN);
        due("end(2, 0, 1, 0)", x.end(2, 0, 1, 0), OUTSIDE);
        due("end(2, 10, 1, 0)", x.end(2, 10, 1, 0), OUTSIDE);
        due("end(2, 1, -1, 0)", x.end(2, 1, -1, 0), OUTSIDE);
        due("end(2, 1, 10000, 0)", x.end(2, 1, 10000, 0), OUTSIDE);
        due("end(2, 1, 1, 2)", x.end(2, 1, 1, 2), OUTSIDE);
        due("end(2, 1, 1, -1)", x.end(2, 1, 1, -1), OUTSIDE);
        due("end(0, 1, 1, 2)", x.end(0, 1, 1, 2), OUTSIDE);
        due("end(0, 1, 1, 1)", x.end(0, 1, 1, 1), NOT);
        due("end(2, 9, 9999, 1)", x.end(2, 9, 9999, 1), 1);
        due("at(2, 4)", x.at(2, 4), 9);
        due("at(2, 5)", x.at(2, 5), 9999);
        due("at(2, 6)", x.at(2, 6), 1);
        due("end(2, 1, 0, 0)", x.end(2, 1, 0, 0), 1);
        due("at(2, 5)", x.at(2, 5), 0);
        // no say while it is no END, but it stays with it
        String was = section1(x);
        due("end(1, 9, 7, 1)", x.end(1, 9, 7, 1), 0);
        same("end() of no END", section1(x), was);
        due("at(1, 4)", x.at(1, 4), NONE);
        x.take();
        x.take();
        due("at(1, 4)", x.at(1, 4), 9);
        due("at(1, 5)", x.at(1, 5), 7);
        due("at(1, 6)", x.at(1, 6), 1);
        due("told(7)", x.told(7), 2);
        x.node(1, 0, 0);
        due("at(1, 8), its LOAD has no say", x.at(1, 8), 1);
        x.take();
        due("at(1, 8)", x.at(1, 8), 9);
    }

    private static void wire() {
        about = "promise 13";
        RepeaterWires x = branched();
        due("wire(3, 5, 0, 2)", x.wire(3, 5, 0, 2), 82);
        due("wire(3, 5, 0, 1)", x.wire(3, 5, 0, 1), 92);
        // BEARS of 1: 12 + 4 + 2
        due("wire(2, 9, 6, 2)", x.wire(2, 9, 6, 2), 42 + 6 + 72 + 54 + 36);
        due("at(2, 1)", x.at(2, 1), 9);
        due("at(2, 2)", x.at(2, 2), 6);
        due("at(2, 3)", x.at(2, 3), 2);
        due("wire(1, 0, 0, 1)", x.wire(1, 0, 0, 1), 36);
        due("wire(4, 1, 1, 1)", x.wire(4, 1, 1, 1), UNKNOWN);
        due("wire(-1, 1, 1, 9)", x.wire(-1, 1, 1, 9), UNKNOWN);
        due("wire(1, 10, 1, 1)", x.wire(1, 10, 1, 1), OUTSIDE);
        due("wire(1, -1, 1, 1)", x.wire(1, -1, 1, 1), OUTSIDE);
        due("wire(1, 1, 10, 1)", x.wire(1, 1, 10, 1), OUTSIDE);
        due("wire(1, 1, -1, 1)", x.wire(1, 1, -1, 1), OUTSIDE);
        due("wire(1, 1, 1, 0)", x.wire(1, 1, 1, 0), OUTSIDE);
        due("wire(1, 1, 1, 3)", x.wire(1, 1, 1, 3), OUTSIDE);
        due("wire(0, 1, 1, 3)", x.wire(0, 1, 1, 3), OUTSIDE);
        due("wire(0, 1, 1, 1)", x.wire(0, 1, 1, 1), NOT);
        due("told(13)", x.told(13), 11);
    }

    private static void pull() {
        about = "promise 14";
        RepeaterWires x = branched();
        due("pull(0)", x.pull(0), 1);
        due("at(0, 10)", x.at(0, 10), 0);
        due("pull(9)", x.pull(9), 0);
        due("at(0, 10)", x.at(0, 10), 2 * 9 * 13);
        due("told(2)", x.told(2), 9);
        due("pull(10)", x.pull(10), OUTSIDE);
        due("pull(-1)", x.pull(-1), OUTSIDE);
        due("pull(MIN)", x.pull(MIN), OUTSIDE);
        due("told(2)", x.told(2), 9);
        due("pull(9), as it is: a deed, too", x.pull(9), 9);
        due("told(13)", x.told(13), 10);
    }

    private static void kind() {
        about = "promise 15";
        RepeaterWires x = branched();
        due("kind(3, 9, 9, 99, 99, 1)", x.kind(3, 9, 9, 99, 99, 1), 0);
        due("told(3)", x.told(3), 14);
        due("kind(3, 1, 0, 0, 0, 0)", x.kind(3, 1, 0, 0, 0, 0), 1);
        for (int what = 0; what < 5; what++) due("kindAt(3, " + what + ")", x.kindAt(3, what), what == 0 ? 1 : 0);
        due("kind(0, ..)", x.kind(0, 1, 1, 1, 1, 0), UNKNOWN);
        due("kind(4, ..)", x.kind(4, 1, 1, 1, 1, 0), UNKNOWN);
        due("kind(-1, all wrong)", x.kind(-1, 0, 10, 100, 100, 2), UNKNOWN);
        due("kind(MAX, all wrong)", x.kind(MAX, 0, 10, 100, 100, 2), UNKNOWN);
        int[][] wrong = {{0, 1, 1, 1, 0}, {10, 1, 1, 1, 0}, {1, -1, 1, 1, 0}, {1, 10, 1, 1, 0}, {1, 1, -1, 1, 0},
            {1, 1, 100, 1, 0}, {1, 1, 1, -1, 0}, {1, 1, 1, 100, 0}, {1, 1, 1, 1, -1}, {1, 1, 1, 1, 2}};
        for (int[] w : wrong) due("kind(1, a number outside)", x.kind(1, w[0], w[1], w[2], w[3], w[4]), OUTSIDE);
        due("kindAt(1, 0)", x.kindAt(1, 0), 2);
        // a KIND that is PLACED may become another: what stands is that
        x.place(3, 1);
        due("told(4)", x.told(4), 7);
        due("kind(1, 5, 0, 0, 50, 1)", x.kind(1, 5, 0, 0, 50, 1), 1);
        due("told(4)", x.told(4), 50);
        due("at(3, 9)", x.at(3, 9), 5);
        due("at(3, 12)", x.at(3, 12), 1);
    }

    private static void drop() {
        about = "promise 16";
        RepeaterWires x = branched();
        due("drop(3)", x.drop(3), UNKNOWN);
        due("drop(0)", x.drop(0), UNKNOWN);
        due("drop(4)", x.drop(4), UNKNOWN);
        due("drop(-1)", x.drop(-1), UNKNOWN);
        due("drop(33)", x.drop(33), UNKNOWN);
        x.place(3, 1);
        due("drop(1), it is PLACED", x.drop(1), NOT);
        due("told(3)", x.told(3), 6);
        due("drop(2)", x.drop(2), 1);
        due("told(3)", x.told(3), 2);
        due("kindAt(2, 0)", x.kindAt(2, 0), UNKNOWN);
        due("place(2, 2)", x.place(2, 2), UNKNOWN);
        due("drop(2)", x.drop(2), UNKNOWN);
        // it goes with the NODE at which it stood
        x.take();
        due("drop(1), its NODE is no more", x.drop(1), 0);
        due("told(3)", x.told(3), 0);
        due("undo(1)", x.undo(1), 10);
        due("told(3)", x.told(3), 2);
        x.place(1, 1);
        due("drop(1), PLACED at 1", x.drop(1), NOT);
        x.place(1, 0);
        due("drop(1)", x.drop(1), 0);
        x.undo(3);
        due("kindAt(1, 3)", x.kindAt(1, 3), 7);
    }

    private static void place() {
        about = "promise 17";
        RepeaterWires x = branched();
        due("place(1, 1)", x.place(1, 1), 0);
        due("at(1, 7)", x.at(1, 7), 1);
        due("told(5)", x.told(5), 999991);
        due("place(1, 2)", x.place(1, 2), 1);
        due("told(5)", x.told(5), 999975);
        due("told(7)", x.told(7), 4);
        due("place(1, 2), as it is: a deed, too", x.place(1, 2), 2);
        due("told(13)", x.told(13), 10);
        due("place(1, 0)", x.place(1, 0), 2);
        due("told(5)", x.told(5), 999966);
        due("place(1, 3)", x.place(1, 3), UNKNOWN);
        due("place(1, -1)", x.place(1, -1), UNKNOWN);
        due("place(1, 4)", x.place(1, 4), UNKNOWN);
        due("place(4, 0)", x.place(4, 0), UNKNOWN);
        due("place(-1, 1)", x.place(-1, 1), UNKNOWN);
        due("place(0, 3)", x.place(0, 3), UNKNOWN);
        due("place(0, 1)", x.place(0, 1), NOT);
        due("place(0, 0)", x.place(0, 0), NOT);
        x.place(2, 1);
        x.place(3, 2);
        due("told(4)", x.told(4), 11);
    }

    private static void take() {
        about = "promise 18";
        RepeaterWires x = branched();
        due("take()", x.take(), 3);
        due("told(1)", x.told(1), 4);
        due("at(3, 0)", x.at(3, 0), UNKNOWN);
        due("take()", x.take(), 2);
        due("told(1)", x.told(1), 2);
        due("told(6)", x.told(6), 1);
        due("take()", x.take(), 1);
        due("told(6), no ENDS any more", x.told(6), NONE);
        due("told(5)", x.told(5), 1900000);
        due("told(6)", x.told(6), NONE);
        due("take()", x.take(), NOT);
        due("told(0)", x.told(0), 1);
        due("told(13)", x.told(13), 10);
        RepeaterWires y = branched();
        y.place(3, 2);
        y.take();
        due("told(4), a REPEATER goes with its NODE", y.told(4), 0);
    }

    private static void change() {
        about = "promise 19";
        RepeaterWires x = branched();
        due("change()", x.change(), 999991);
        due("at(1, 7)", x.at(1, 7), 1);
        due("told(13)", x.told(13), 8);
        due("undo(1)", x.undo(1), 7);
        due("at(1, 7)", x.at(1, 7), 0);
        due("told(5)", x.told(5), 999966);
        due("change() of the SOURCE alone", new RepeaterWires().change(), NOT);
        RepeaterWires y = new RepeaterWires();
        y.node(0, 1, 1);
        due("change(), no KINDS", y.change(), NOT);
        due("told(13)", y.told(13), 1);
        // to turn it about would make a right END wrong: no such change, however much SLACK it has
        y.end(1, 9, 100, 0);
        y.kind(1, 1, 0, 0, 0, 1);
        due("told(10)", y.told(10), NONE);
        due("change()", y.change(), NOT);
        y.end(1, 9, 100, 1);
        due("told(10), now it is right by that", y.told(10), 11);
        due("change()", y.change(), 1000100 - 2 * 2 - 1 - 2);
        due("told(10), none would be wrong again", y.told(10), NONE);
        // a change may be for the worse, if there is no other
        RepeaterWires z = new RepeaterWires();
        z.node(0, 0, 0);
        z.kind(1, 9, 9, 99, 99, 0);
        due("told(10), for the worse", z.told(10), 11);
        due("change()", z.change(), 1000100 - 18 - 99 - 18);
        due("told(10), back to none", z.told(10), 10);
    }

    private static void changeTies() {
        about = "promise 19";
        due("told(10), all like: least NODE, then KIND", twins(5, 5, 9).told(10), 11);
        due("told(10), like SLACK: least COST", twins(5, 3, 9).told(10), 12);
        RepeaterWires x = twins(5, 3, 9);
        x.place(2, 3);
        due("told(10), least COST of all, not of the one", x.told(10), 20);
        x.place(1, 3);
        due("told(10), like COST: least NODE", x.told(10), 10);
        // one of two WRONG ENDS for another is not fewer of them alone
        RepeaterWires y = new RepeaterWires();
        y.node(0, 0, 0);
        y.node(1, 0, 0);
        y.node(1, 0, 0);
        y.end(2, 1, 100, 1);
        y.kind(2, 1, 0, 9, 0, 1);
        due("told(7)", y.told(7), 4);
        due("told(10), 12 would make 3 wrong, 32 too", y.told(10), 22);
        y.end(3, 1, 100, 1);
        due("told(10), fewer of them", y.told(10), 12);
    }

    private static void drift() {
        about = "promise 20";
        RepeaterWires x = new RepeaterWires();
        due("drift(0)", x.drift(0), OUTSIDE);
        due("drift(7)", x.drift(7), OUTSIDE);
        due("drift(-1)", x.drift(-1), OUTSIDE);
        due("told(14)", x.told(14), 0);
        due("drift(1)", x.drift(1), 2);
        drawn(x, 1, 0, 8, 8, 5, 198, 1);
        due("told(14)", x.told(14), 1109335178);
        due("drift(6), while there is room", x.drift(6), 6);
        due("told(13)", x.told(13), 5);
        due("told(1), the ENDS", x.told(1), 4 + 8 + 16 + 32);
        drawn(x, 2, 1, 1, 2, 5, 261, 0);
        drawn(x, 3, 1, 8, 7, 1, 268, 1);
        drawn(x, 4, 0, 1, 6, 2, 265, 1);
        drawn(x, 5, 1, 1, 6, 2, 244, 1);
        due("told(14)", x.told(14), 371038354);
        int seed = x.told(14);
        String was = picture(x);
        due("drift(6), no room", x.drift(6), 6);
        due("drift(1), no room", x.drift(1), 6);
        due("told(14)", x.told(14), seed);
        same("drift() without room", picture(x), was);
        due("undo(2)", x.undo(2), 3);
        due("told(0)", x.told(0), 4);
        due("told(14), THE SEED stays", x.told(14), seed);
    }

    private static void undo() {
        about = "promise 21";
        RepeaterWires x = branched();
        due("undo(0)", x.undo(0), OUTSIDE);
        due("undo(17)", x.undo(17), OUTSIDE);
        due("undo(-1)", x.undo(-1), OUTSIDE);
        due("undo(MAX)", x.undo(MAX), OUTSIDE);
        due("undo(8)", x.undo(8), NOT);
        String was = section1(x);
        x.pull(4);
        x.end(3, 9, 9, 0);
        x.wire(1, 7, 7, 2);
        x.kind(3, 9, 9, 9, 9, 1);
        x.drop(1);
        x.place(2, 3);
        x.take();
        x.node(2, 1, 1);
        due("told(13)", x.told(13), 15);
        due("undo(8)", x.undo(8), 7);
        same("undo(8)", section1(x), was);
        x.change();
        x.drift(2);
        due("told(13)", x.told(13), 10);
        due("undo(3)", x.undo(3), 7);
        same("undo(3)", section1(x), was);
        x.place(1, 1);
        x.place(1, 2);
        x.place(1, 0);
        due("undo(1)", x.undo(1), 9);
        due("at(1, 7)", x.at(1, 7), 2);
        due("undo(1)", x.undo(1), 8);
        due("at(1, 7)", x.at(1, 7), 1);
        due("undo(8)", x.undo(8), 0);
        due("told(0)", x.told(0), 1);
        due("undo(1)", x.undo(1), NOT);
        // 16 at most are kept: the oldest ones go
        for (int i = 0; i < 20; i++) x.pull(i % 10);
        due("told(13)", x.told(13), 16);
        due("undo(16)", x.undo(16), 0);
        due("told(2), as it was behind the fourth", x.told(2), 3);
        for (int i = 0; i < 5; i++) x.pull(i);
        due("undo(2)", x.undo(2), 3);
        due("told(2)", x.told(2), 2);
        x.pull(8);
        due("undo(2)", x.undo(2), 2);
        due("told(2)", x.told(2), 1);
        // what is no deed is not counted, and not undone
        x.seed(77);
        x.write(0, 5);
        due("told(13)", x.told(13), 2);
        due("undo(2)", x.undo(2), 0);
        due("told(14)", x.told(14), 77);
        due("told(11)", x.told(11), 1);
    }

    private static void book() {
        about = "promise 22";
        RepeaterWires x = branched();
        due("write(4, 0)", x.write(4, 0), UNKNOWN);
        due("write(-1, 0)", x.write(-1, 0), UNKNOWN);
        due("told(12), no entries", x.told(12), NONE);
        due("write(0, 26)", x.write(0, 26), 1);
        due("write(3, 92)", x.write(3, 92), 2);
        due("write(2, 84)", x.write(2, 84), 3);
        due("told(11)", x.told(11), 3);
        due("told(12)", x.told(12), NONE);
        due("write(1, 71)", x.write(1, 71), 4);
        due("write(1, MIN)", x.write(1, MIN), 5);
        due("told(12)", x.told(12), 3);
        x.wire(3, 5, 0, 2);
        due("told(12), TIME of 3 is another", x.told(12), 1);
        x.undo(1);
        due("told(12)", x.told(12), 3);
        x.take();
        // less load now: every TIME is another
        due("told(12)", x.told(12), 0);
        about = "promise 23";
        due("tear()", x.tear(), 5);
        due("told(11)", x.told(11), 0);
        due("told(12)", x.told(12), NONE);
        due("tear()", x.tear(), 0);
        about = "promise 22";
        x.undo(1);
        x.pull(0);
        x.wire(1, 0, 0, 1);
        x.write(1, 0);
        x.write(3, 20);
        due("told(12)", x.told(12), NONE);
        x.take();
        due("told(12), there is no 3 any more", x.told(12), 1);
        x.node(1, 5, 0);
        x.end(3, 2, 0, 0);
        due("told(12), there is one again", x.told(12), NONE);
        for (int i = 3; i <= 20; i++) due("write(0, " + i + ")", x.write(0, MAX), i);
        due("write(0, 1), it is full", x.write(0, 1), FULL);
        due("write(4, 1), it is full", x.write(4, 1), UNKNOWN);
        due("told(11)", x.told(11), 20);
        due("told(12)", x.told(12), 2);
        due("tear()", x.tear(), 20);
        due("write(0, 1)", x.write(0, 1), 1);
    }

    private static void seed() {
        about = "promise 24";
        RepeaterWires x = new RepeaterWires();
        due("seed(5)", x.seed(5), 0);
        due("told(14)", x.told(14), 5);
        due("seed(MAX)", x.seed(MAX), 5);
        due("seed(-1)", x.seed(-1), OUTSIDE);
        due("seed(MIN)", x.seed(MIN), OUTSIDE);
        due("told(14)", x.told(14), MAX);
        due("drift(1)", x.drift(1), 2);
        drawn(x, 1, 0, 9, 2, 7, 13, 0);
        due("seed(0)", x.seed(0), 1849869457);
        due("told(13)", x.told(13), 1);
    }

    private static void images() {
        about = "promise 25";
        RepeaterWires x = branched();
        x.seed(99);
        x.write(0, 26);
        due("keep(2)", x.keep(2), UNKNOWN);
        due("keep(-1)", x.keep(-1), UNKNOWN);
        due("keep(MIN)", x.keep(MIN), UNKNOWN);
        due("told(13)", x.told(13), 7);
        String was = section1(x);
        due("keep(0)", x.keep(0), 1);
        due("told(13)", x.told(13), 0);
        due("undo(1)", x.undo(1), NOT);
        same("keep(0)", section1(x), was);
        about = "promise 26";
        due("goBack(1)", x.goBack(1), NOT);
        due("goBack(2)", x.goBack(2), UNKNOWN);
        due("goBack(-1)", x.goBack(-1), UNKNOWN);
        x.place(1, 2);
        x.drift(2);
        x.pull(7);
        x.kind(1, 9, 9, 9, 9, 1);
        x.end(2, 9, 9, 1);
        x.wire(2, 9, 9, 2);
        x.write(1, 1);
        String later = section1(x);
        int seedLater = x.told(14);
        due("keep(1)", x.keep(1), 1);
        x.take();
        due("goBack(0)", x.goBack(0), 1);
        same("goBack(0)", section1(x), was);
        due("told(14)", x.told(14), 99);
        due("told(13)", x.told(13), 0);
        due("told(11), THE BOOK stays", x.told(11), 2);
        // an IMAGE stays what it is, however often one goes on from it
        x.place(1, 1);
        x.pull(0);
        x.seed(3);
        due("told(13)", x.told(13), 2);
        due("goBack(0)", x.goBack(0), 1);
        same("goBack(0)", section1(x), was);
        due("told(14)", x.told(14), 99);
        due("goBack(1)", x.goBack(1), 1);
        same("goBack(1)", section1(x), later);
        due("told(14)", x.told(14), seedLater);
        due("keep(0)", x.keep(0), 1);
        x.take();
        due("goBack(0)", x.goBack(0), 1);
        due("goBack(0), kept anew", x.told(2), 7);
        pointsAfterGoBack();
    }

    private static void pointsAfterGoBack() {
        RepeaterWires x = branched();
        x.keep(0);
        x.drop(2);
        pointsAre(x);
        x.goBack(0);
        pointsAre(x, 4, -29, 8, -28, 11, -8);
        x.drop(2);
        pointsAre(x);
        x.undo(1);
        pointsAre(x, 4, -29, 8, -28, 11, -8);
    }

    private static void refusalsChangeNothing() {
        about = "what is refused";
        RepeaterWires x = branched();
        x.place(3, 2);
        x.write(2, 1);
        String was = picture(x);
        x.node(9, 0, 0);
        x.node(0, 99, 0);
        x.end(0, 1, 1, 1);
        x.end(2, 1, 1, 7);
        x.wire(0, 1, 1, 1);
        x.wire(2, 1, 1, 3);
        x.pull(10);
        x.kind(4, 1, 1, 1, 1, 1);
        x.kind(1, 1, 1, 1, 1, 2);
        x.drop(2);
        x.drop(3);
        x.place(0, 1);
        x.place(1, 3);
        x.drift(0);
        x.undo(9);
        x.undo(17);
        x.write(7, 1);
        x.seed(-1);
        x.keep(2);
        x.goBack(0);
        same("what is refused", picture(x), was);
    }
}
