import java.util.function.ToIntFunction;

/** "Terms", REFUSALS: which one of several is told, and that what is refused changes nothing. */
public final class RefusalEdgeTest extends Sheet {
    public static void main(String[] args) {
        sentence("NONE is -1. PLUS is 1000000; NEVER is 900000", RefusalEdgeTest::numbersWithNames);
        sentence("REFUSALS: -1000000001 and on", RefusalEdgeTest::refusalsByNumber);
        sentence("They are far below all that is counted", RefusalEdgeTest::farBelowAllThatIsCounted);
        sentence("UNKNOWN: a NODE that there is not", RefusalEdgeTest::unknownNodes);
        sentence("UNKNOWN: a KIND that there is not", RefusalEdgeTest::unknownKinds);
        sentence("UNKNOWN: a CANDIDATE that there is not", RefusalEdgeTest::unknownCandidates);
        sentence("UNKNOWN: a POINT that there is not", RefusalEdgeTest::unknownPoints);
        sentence("UNKNOWN: an IMAGE that there is not", RefusalEdgeTest::unknownImages);
        sentence("of several the first: UNKNOWN ahead of OUTSIDE", RefusalEdgeTest::unknownAheadOfOutside);
        sentence("of several the first: UNKNOWN ahead of NOT", RefusalEdgeTest::unknownAheadOfNot);
        sentence("of several the first: UNKNOWN ahead of FULL", RefusalEdgeTest::unknownAheadOfFull);
        sentence("of several the first: OUTSIDE ahead of NOT", RefusalEdgeTest::outsideAheadOfNot);
        sentence("of several the first: OUTSIDE ahead of FULL", RefusalEdgeTest::outsideAheadOfFull);
        sentence("What is refused changes nothing: questions", RefusalEdgeTest::refusedQuestions);
        sentence("What is refused changes nothing: node, end, wire, pull", RefusalEdgeTest::refusedNets);
        sentence("What is refused changes nothing: kind, drop, place", RefusalEdgeTest::refusedRepeaters);
        sentence("What is refused changes nothing: take, change", RefusalEdgeTest::refusedWhereThereIsNone);
        sentence("What is refused changes nothing: drift, undo, seed", RefusalEdgeTest::refusedNumbers);
        sentence("What is refused changes nothing: write, keep, goBack", RefusalEdgeTest::refusedBookAndImages);
        finish("RefusalEdgeTest");
    }

    private static void numbersWithNames() {
        due("NONE", RepeaterWires.NONE, -1);
        due("PLUS", RepeaterWires.PLUS, 1000000);
        due("NEVER", RepeaterWires.NEVER, 900000);
    }

    private static void refusalsByNumber() {
        due("UNKNOWN", RepeaterWires.UNKNOWN, -1000000001);
        due("OUTSIDE", RepeaterWires.OUTSIDE, -1000000002);
        due("NOT", RepeaterWires.NOT, -1000000003);
        due("FULL", RepeaterWires.FULL, -1000000004);
    }

    /** The latest that can come is some thousands late: SLACK and PLUS is still above 0. */
    private static void farBelowAllThatIsCounted() {
        RepeaterWires x = chain(5, 9, 9);
        x.pull(9);
        x.end(5, 9, 0, 1);
        // BEARS 54, 45, 36, 27, 18, 9: 972, and 81 each, and 18 times 45, 36, 27, 18, 9
        due("told(5), all narrow", x.told(5), PLUS - 3807);
        for (int v = 1; v <= 5; v++) x.wire(v, 9, 9, 2);
        // BEARS 99, 81, 63, 45, 27, 9: 1782, and 81 each, and 9 times 81, 63, 45, 27, 9
        due("told(5), all wide", x.told(5), PLUS - 4212);
        due("at(5, 11)", x.at(5, 11), PLUS - 4212);
        x.kind(1, 9, 9, 99, 99, 1);
        for (int v = 1; v <= 5; v++) x.place(v, 1);
        // BEARS 27 each, but for the END's 9: 486, four times 81 + 81 + 99 + 486, and 81 + 81 + 99 + 162
        due("told(5), the slowest REPEATERS", x.told(5), PLUS - 3897);
        due("told(4)", x.told(4), 495);
    }

    // ---- what there is not

    private static void unknownNodes() {
        for (int v : new int[] {-1, 4, 5, 6, 31, 32, MIN, MAX}) {
            RepeaterWires x = branched();
            due("at(" + v + ", 0)", x.at(v, 0), UNKNOWN);
            due("candidates(" + v + ", 0)", x.candidates(v, 0), UNKNOWN);
            due("candidate(" + v + ", 0, 0, 0)", x.candidate(v, 0, 0, 0), UNKNOWN);
            due("would(" + v + ", 0)", x.would(v, 0), UNKNOWN);
            due("node(" + v + ", 1, 1)", x.node(v, 1, 1), UNKNOWN);
            due("end(" + v + ", 1, 1, 0)", x.end(v, 1, 1, 0), UNKNOWN);
            due("wire(" + v + ", 1, 1, 1)", x.wire(v, 1, 1, 1), UNKNOWN);
            due("place(" + v + ", 0)", x.place(v, 0), UNKNOWN);
            due("write(" + v + ", 0)", x.write(v, 0), UNKNOWN);
        }
    }

    private static void unknownKinds() {
        for (int k : new int[] {-1, 3, 4, 33, 34, MIN, MAX}) {
            RepeaterWires x = branched();
            due("kindAt(" + k + ", 0)", x.kindAt(k, 0), UNKNOWN);
            due("would(1, " + k + ")", x.would(1, k), UNKNOWN);
            due("place(1, " + k + ")", x.place(1, k), UNKNOWN);
            due("drop(" + k + ")", x.drop(k), UNKNOWN);
        }
        // 0 can be PLACED, but it is no KIND
        RepeaterWires x = branched();
        due("kindAt(0, 0)", x.kindAt(0, 0), UNKNOWN);
        due("drop(0)", x.drop(0), UNKNOWN);
        // any of 1 to 3 can come, there or not
        for (int k : new int[] {-1, 0, 4, 33, MIN, MAX}) {
            due("kind(" + k + ", 1, 1, 1, 1, 1)", x.kind(k, 1, 1, 1, 1, 1), UNKNOWN);
        }
        // one that was there and is no more
        x.drop(2);
        due("kindAt(2, 0), dropped", x.kindAt(2, 0), UNKNOWN);
        due("would(1, 2), dropped", x.would(1, 2), UNKNOWN);
        due("place(1, 2), dropped", x.place(1, 2), UNKNOWN);
        due("drop(2), dropped", x.drop(2), UNKNOWN);
    }

    private static void unknownCandidates() {
        RepeaterWires x = branched();
        // END 3 wants it turned: one way by KIND 2, if it comes as it is
        due("candidates(3, 0)", x.candidates(3, 0), 1);
        due("candidate(3, 0, 0, 2)", x.candidate(3, 0, 0, 2), 4);
        for (int i : new int[] {-1, 1, 2, MIN, MAX}) {
            due("candidate(3, 0, " + i + ", 0)", x.candidate(3, 0, i, 0), UNKNOWN);
        }
        x.drop(2);
        due("candidates(3, 0), none is left", x.candidates(3, 0), 0);
        due("candidate(3, 0, 0, 0), none is left", x.candidate(3, 0, 0, 0), UNKNOWN);
        due("candidate(3, 0, -1, 0), none is left", x.candidate(3, 0, -1, 0), UNKNOWN);
    }

    private static void unknownPoints() {
        RepeaterWires x = branched();
        due("told(8)", x.told(8), 3);
        due("point(2, 0)", x.point(2, 0), 11);
        for (int i : new int[] {-1, 3, 4, MIN, MAX}) due("point(" + i + ", 0)", x.point(i, 0), UNKNOWN);
        x.drop(2);
        due("told(8), END 3 is WRONG for ever", x.told(8), 0);
        due("point(0, 0), there are none", x.point(0, 0), UNKNOWN);
        due("point(-1, 0), there are none", x.point(-1, 0), UNKNOWN);
    }

    private static void unknownImages() {
        RepeaterWires x = branched();
        x.keep(0);
        x.keep(1);
        for (int i : new int[] {-1, 2, 3, MIN, MAX}) {
            due("keep(" + i + ")", x.keep(i), UNKNOWN);
            due("goBack(" + i + ")", x.goBack(i), UNKNOWN);
        }
    }

    // ---- of several the first

    private static void unknownAheadOfOutside() {
        RepeaterWires x = branched();
        due("at(4, 13)", x.at(4, 13), UNKNOWN);
        due("at(-1, -1)", x.at(-1, -1), UNKNOWN);
        due("kindAt(3, 5)", x.kindAt(3, 5), UNKNOWN);
        due("kindAt(0, -1)", x.kindAt(0, -1), UNKNOWN);
        due("candidates(4, 2)", x.candidates(4, 2), UNKNOWN);
        due("candidate(4, 2, 0, 0)", x.candidate(4, 2, 0, 0), UNKNOWN);
        due("candidate(4, 0, 0, 3)", x.candidate(4, 0, 0, 3), UNKNOWN);
        due("candidate(3, 0, 1, 3)", x.candidate(3, 0, 1, 3), UNKNOWN);
        due("candidate(3, 0, -1, -1)", x.candidate(3, 0, -1, -1), UNKNOWN);
        due("point(3, 2)", x.point(3, 2), UNKNOWN);
        due("point(-1, -1)", x.point(-1, -1), UNKNOWN);
        due("node(4, 10, 0)", x.node(4, 10, 0), UNKNOWN);
        due("node(4, 0, -1)", x.node(4, 0, -1), UNKNOWN);
        due("end(4, 0, 0, 0)", x.end(4, 0, 0, 0), UNKNOWN);
        due("end(4, 1, 10000, 0)", x.end(4, 1, 10000, 0), UNKNOWN);
        due("end(4, 1, 0, 2)", x.end(4, 1, 0, 2), UNKNOWN);
        due("wire(4, 10, 0, 1)", x.wire(4, 10, 0, 1), UNKNOWN);
        due("wire(4, 0, 10, 1)", x.wire(4, 0, 10, 1), UNKNOWN);
        due("wire(4, 0, 0, 3)", x.wire(4, 0, 0, 3), UNKNOWN);
        due("kind(4, 0, 0, 0, 0, 0)", x.kind(4, 0, 0, 0, 0, 0), UNKNOWN);
        due("kind(0, 1, 10, 100, 100, 2)", x.kind(0, 1, 10, 100, 100, 2), UNKNOWN);
    }

    private static void unknownAheadOfNot() {
        RepeaterWires x = branched();
        due("would(0, 3)", x.would(0, 3), UNKNOWN);
        due("would(0, -1)", x.would(0, -1), UNKNOWN);
        due("place(0, 3)", x.place(0, 3), UNKNOWN);
        due("place(0, 4)", x.place(0, 4), UNKNOWN);
        due("goBack(2), none was kept", x.goBack(2), UNKNOWN);
        due("goBack(-1), none was kept", x.goBack(-1), UNKNOWN);
    }

    private static void unknownAheadOfFull() {
        RepeaterWires x = crowded();
        due("node(6, 1, 1)", x.node(6, 1, 1), UNKNOWN);
        due("node(-1, 10, 10)", x.node(-1, 10, 10), UNKNOWN);
        due("write(6, 0)", x.write(6, 0), UNKNOWN);
        due("write(-1, 0)", x.write(-1, 0), UNKNOWN);
    }

    private static void outsideAheadOfNot() {
        RepeaterWires x = branched();
        due("end(0, 0, 0, 0)", x.end(0, 0, 0, 0), OUTSIDE);
        due("end(0, 1, -1, 0)", x.end(0, 1, -1, 0), OUTSIDE);
        due("end(0, 1, 0, 2)", x.end(0, 1, 0, 2), OUTSIDE);
        due("wire(0, 10, 0, 1)", x.wire(0, 10, 0, 1), OUTSIDE);
        due("wire(0, 0, -1, 1)", x.wire(0, 0, -1, 1), OUTSIDE);
        due("wire(0, 0, 0, 0)", x.wire(0, 0, 0, 0), OUTSIDE);
        due("undo(17), seven were done", x.undo(17), OUTSIDE);
        due("undo(0), nothing was done", new RepeaterWires().undo(0), OUTSIDE);
        due("undo(17), nothing was done", new RepeaterWires().undo(17), OUTSIDE);
    }

    private static void outsideAheadOfFull() {
        RepeaterWires x = crowded();
        due("node(0, 10, 0)", x.node(0, 10, 0), OUTSIDE);
        due("node(0, -1, 0)", x.node(0, -1, 0), OUTSIDE);
        due("node(0, 0, 10)", x.node(0, 0, 10), OUTSIDE);
        due("node(0, 0, -1)", x.node(0, 0, -1), OUTSIDE);
        due("node(0, 0, 0)", x.node(0, 0, 0), FULL);
    }

    // ---- what is refused changes nothing

    /**
     * The net and THE BOOK are FULL, KIND 2 is PLACED, KIND 3 is not there, IMAGE 0 was kept and IMAGE 1 not, three
     * deeds can be undone, the last entry of THE BOOK alone is WRONG.
     */
    private static RepeaterWires crowded() {
        RepeaterWires x = branched();
        x.place(3, 2);
        x.seed(77);
        x.keep(0);
        x.drift(2);
        x.pull(0);
        for (int i = 0; i < 19; i++) x.write(0, 0);
        x.write(0, 1);
        return x;
    }

    private static void refused(String call, ToIntFunction<RepeaterWires> asked, int want) {
        refusedBy(crowded(), crowded(), call, asked, want);
    }

    /** Of two objects that are alike one is asked: it looks as ahead of that, and goes on as the other one does. */
    private static void refusedBy(RepeaterWires x, RepeaterWires other, String call, ToIntFunction<RepeaterWires> asked, int want) {
        String was = picture(x);
        due(call, asked.applyAsInt(x), want);
        same(call, picture(x), was);
        due("told(13) behind " + call, x.told(13), other.told(13));
        due("undo(2) behind " + call, x.undo(2), other.undo(2));
        same("undo(2) behind " + call, section1(x), section1(other));
        due("goBack(0) behind " + call, x.goBack(0), other.goBack(0));
        same("goBack(0) behind " + call, section1(x), section1(other));
        due("told(14) behind " + call, x.told(14), other.told(14));
        due("goBack(1) behind " + call, x.goBack(1), NOT);
    }

    private static void refusedQuestions() {
        refused("told(15)", x -> x.told(15), OUTSIDE);
        refused("at(6, 0)", x -> x.at(6, 0), UNKNOWN);
        refused("at(0, 13)", x -> x.at(0, 13), OUTSIDE);
        refused("kindAt(3, 0)", x -> x.kindAt(3, 0), UNKNOWN);
        refused("kindAt(1, 5)", x -> x.kindAt(1, 5), OUTSIDE);
        refused("candidates(6, 0)", x -> x.candidates(6, 0), UNKNOWN);
        refused("candidates(0, 2)", x -> x.candidates(0, 2), OUTSIDE);
        refused("candidate(0, 0, 999, 0)", x -> x.candidate(0, 0, 999, 0), UNKNOWN);
        refused("candidate(0, 2, 0, 0)", x -> x.candidate(0, 2, 0, 0), OUTSIDE);
        refused("point(999, 0)", x -> x.point(999, 0), UNKNOWN);
        refused("point(0, 2)", x -> x.point(0, 2), OUTSIDE);
        refused("best(-1)", x -> x.best(-1), OUTSIDE);
        refused("would(1, 3)", x -> x.would(1, 3), UNKNOWN);
        refused("would(0, 1)", x -> x.would(0, 1), NOT);
    }

    private static void refusedNets() {
        refused("node(6, 1, 1)", x -> x.node(6, 1, 1), UNKNOWN);
        refused("node(0, 10, 1)", x -> x.node(0, 10, 1), OUTSIDE);
        refused("node(0, 1, 1)", x -> x.node(0, 1, 1), FULL);
        refused("end(6, 9, 9, 1)", x -> x.end(6, 9, 9, 1), UNKNOWN);
        refused("end(5, 9, 9, 2)", x -> x.end(5, 9, 9, 2), OUTSIDE);
        refused("end(5, 9, 10000, 1)", x -> x.end(5, 9, 10000, 1), OUTSIDE);
        refused("end(0, 9, 9, 1)", x -> x.end(0, 9, 9, 1), NOT);
        refused("wire(6, 7, 7, 2)", x -> x.wire(6, 7, 7, 2), UNKNOWN);
        refused("wire(5, 7, 7, 3)", x -> x.wire(5, 7, 7, 3), OUTSIDE);
        refused("wire(5, 7, 10, 2)", x -> x.wire(5, 7, 10, 2), OUTSIDE);
        refused("wire(0, 7, 7, 2)", x -> x.wire(0, 7, 7, 2), NOT);
        refused("pull(10)", x -> x.pull(10), OUTSIDE);
        refused("pull(-1)", x -> x.pull(-1), OUTSIDE);
    }

    private static void refusedRepeaters() {
        refused("kind(4, 1, 1, 1, 1, 1)", x -> x.kind(4, 1, 1, 1, 1, 1), UNKNOWN);
        refused("kind(1, 9, 9, 9, 9, 2)", x -> x.kind(1, 9, 9, 9, 9, 2), OUTSIDE);
        refused("kind(3, 9, 9, 9, 100, 1)", x -> x.kind(3, 9, 9, 9, 100, 1), OUTSIDE);
        refused("drop(3)", x -> x.drop(3), UNKNOWN);
        refused("drop(2), it is PLACED", x -> x.drop(2), NOT);
        refused("place(6, 1)", x -> x.place(6, 1), UNKNOWN);
        refused("place(1, 3)", x -> x.place(1, 3), UNKNOWN);
        refused("place(0, 1)", x -> x.place(0, 1), NOT);
    }

    /** The SOURCE alone, as it can be had with deeds behind it. */
    private static RepeaterWires emptied() {
        RepeaterWires x = new RepeaterWires();
        x.kind(1, 1, 1, 1, 1, 0);
        x.keep(0);
        x.node(0, 1, 1);
        x.pull(4);
        x.take();
        x.write(0, 0);
        return x;
    }

    private static void refusedWhereThereIsNone() {
        refusedBy(emptied(), emptied(), "take()", x -> x.take(), NOT);
        refusedBy(emptied(), emptied(), "change()", x -> x.change(), NOT);
    }

    private static void refusedNumbers() {
        refused("drift(0)", x -> x.drift(0), OUTSIDE);
        refused("drift(7)", x -> x.drift(7), OUTSIDE);
        refusedBy(emptied(), emptied(), "drift(0), there is room", x -> x.drift(0), OUTSIDE);
        refusedBy(emptied(), emptied(), "drift(7), there is room", x -> x.drift(7), OUTSIDE);
        refused("undo(0)", x -> x.undo(0), OUTSIDE);
        refused("undo(17)", x -> x.undo(17), OUTSIDE);
        refused("undo(4)", x -> x.undo(4), NOT);
        refused("seed(-1)", x -> x.seed(-1), OUTSIDE);
    }

    private static void refusedBookAndImages() {
        refused("write(6, 1)", x -> x.write(6, 1), UNKNOWN);
        refused("write(0, 1)", x -> x.write(0, 1), FULL);
        refused("keep(2)", x -> x.keep(2), UNKNOWN);
        refused("keep(-1)", x -> x.keep(-1), UNKNOWN);
        refused("goBack(2)", x -> x.goBack(2), UNKNOWN);
        refused("goBack(1)", x -> x.goBack(1), NOT);
    }
}
