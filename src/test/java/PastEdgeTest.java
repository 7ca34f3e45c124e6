import java.util.function.Consumer;

/** Section 3 of "Terms", what was and what comes: THE BOOK, BY DRAWS, UNDONE and IMAGES, each sentence at its edges. */
public final class PastEdgeTest extends Sheet {
    public static void main(String[] args) {
        book();
        draws();
        undone();
        images();
        finish("PastEdgeTest");
    }

    private static void book() {
        sentence("THE BOOK (20 at most)", PastEdgeTest::twentyEntries);
        sentence("THE BOOK tells TIME of a NODE", PastEdgeTest::timeOfEachNode);
        sentence("WRONG ENTRY: the first that is otherwise now", PastEdgeTest::firstWrongEntry);
        sentence("WRONG ENTRY: otherwise now, not as it was written", PastEdgeTest::wrongNow);
        sentence("WRONG ENTRY (a NODE that there is no more: it is, too)", PastEdgeTest::nodeNoMore);
        sentence("WRONG ENTRY: NONE", PastEdgeTest::noWrongEntry);
    }

    private static void draws() {
        sentence("THE SEED (0 at first)", PastEdgeTest::seedAtFirst);
        sentence("THE SEED becomes what is left over by 2 to the 31", PastEdgeTest::leftOverByTwoToThe31);
        sentence("the DRAW of n is it / 65536, left over by n: the least and the most", PastEdgeTest::leastAndMostDraws);
        sentence("n times, while there is room: fewer than asked", PastEdgeTest::fewerThanAsked);
        sentence("n times, while there is room: none", PastEdgeTest::noRoom);
        sentence("n times, while there is room: just as many", PastEdgeTest::justRoom);
        sentence("a NODE comes BELOW that with the number a DRAW of N", PastEdgeTest::belowADraw);
        sentence("then DRAWS of 10 (R), 10 (C), 9 (LOAD, less 1), 300 (NEED), 2 (WANTS)", PastEdgeTest::sixDrawsEach);
    }

    private static void undone() {
        sentence("UNDONE: node()", () -> oneUndone("node", x -> x.node(1, 9, 9)));
        sentence("UNDONE: end()", () -> oneUndone("end", x -> x.end(3, 9, 9, 0)));
        sentence("UNDONE: end() of no END", PastEdgeTest::endOfNoEndUndone);
        sentence("UNDONE: wire()", () -> oneUndone("wire", x -> x.wire(3, 9, 9, 2)));
        sentence("UNDONE: pull()", () -> oneUndone("pull", x -> x.pull(9)));
        sentence("UNDONE: kind(), a new one", () -> oneUndone("kind", x -> x.kind(3, 9, 9, 9, 9, 1)));
        sentence("UNDONE: kind(), one that is there", () -> oneUndone("kind", x -> x.kind(1, 9, 9, 9, 9, 1)));
        sentence("UNDONE: drop()", () -> oneUndone("drop", x -> x.drop(1)));
        sentence("UNDONE: place()", () -> oneUndone("place", x -> x.place(2, 1)));
        sentence("UNDONE: take()", () -> oneUndone("take", x -> x.take()));
        sentence("UNDONE: change()", () -> oneUndone("change", x -> x.change()));
        sentence("UNDONE: each NODE BY DRAWS", PastEdgeTest::eachNodeByDrawsUndone);
        sentence("all of section 1 is as ahead of them", PastEdgeTest::allOfSection1Undone);
        sentence("UNDONE: the latest deeds", PastEdgeTest::latestFirst);
        sentence("deeds: no others are", PastEdgeTest::noOtherDeeds);
        sentence("deeds: one that leaves all as it was is one", PastEdgeTest::deedsThatChangeNothing);
        sentence("16 at most are kept: just 16", PastEdgeTest::sixteenDeeds);
        sentence("16 at most are kept: more than 16", PastEdgeTest::moreThanSixteenDeeds);
        sentence("16 at most are kept: undone and done again and again", PastEdgeTest::roundAndRound);
        sentence("THE SEED, THE BOOK stay", PastEdgeTest::seedAndBookStay);
        sentence("since the IMAGE: kept", PastEdgeTest::sinceTheImageKept);
        sentence("since the IMAGE: gone back to", PastEdgeTest::sinceTheImageGoneBackTo);
    }

    private static void images() {
        sentence("IMAGES 0, 1", PastEdgeTest::twoImages);
        sentence("IMAGES keep all of section 1", PastEdgeTest::imageOfSection1);
        sentence("IMAGES keep THE SEED", PastEdgeTest::imageOfTheSeed);
        sentence("IMAGES do not keep THE BOOK", PastEdgeTest::noImageOfTheBook);
        sentence("an IMAGE of the SOURCE alone", PastEdgeTest::imageOfTheSource);
        sentence("an IMAGE stays as it was kept", PastEdgeTest::imageStays);
    }

    // ---- THE BOOK

    private static void twentyEntries() {
        RepeaterWires x = new RepeaterWires();
        due("told(11), empty", x.told(11), 0);
        for (int i = 1; i <= 20; i++) {
            due("write(0, 0)", x.write(0, 0), i);
            due("told(11)", x.told(11), i);
        }
        due("write(0, 0), the 21st", x.write(0, 0), FULL);
        due("told(11)", x.told(11), 20);
        due("told(12), all are right", x.told(12), NONE);
        due("tear()", x.tear(), 20);
        due("write(0, 1), there is room again", x.write(0, 1), 1);
        due("told(12)", x.told(12), 0);
    }

    private static void timeOfEachNode() {
        RepeaterWires x = branched();
        int[] times = {26, 72, 84, 92};
        for (int v = 0; v <= 3; v++) x.write(v, times[v]);
        due("told(12)", x.told(12), NONE);
        // one off, either way, is otherwise
        for (int v = 0; v <= 3; v++) {
            for (int off : new int[] {-1, 1}) {
                x.tear();
                x.write(v, times[v] + off);
                due("told(12), " + v + " off by " + off, x.told(12), 0);
            }
        }
    }

    private static void firstWrongEntry() {
        RepeaterWires x = new RepeaterWires();
        for (int i = 0; i < 19; i++) x.write(0, 0);
        x.write(0, 7);
        due("told(12), the last of 20", x.told(12), 19);
        x.tear();
        x.write(0, 7);
        for (int i = 0; i < 19; i++) x.write(0, 0);
        due("told(12), the first of 20", x.told(12), 0);
        x.tear();
        x.write(0, 0);
        x.write(0, 7);
        x.write(0, 0);
        x.write(0, 8);
        due("told(12), of two the first", x.told(12), 1);
    }

    private static void wrongNow() {
        RepeaterWires x = branched();
        x.write(0, 26);
        x.write(0, 0);
        due("told(12)", x.told(12), 1);
        x.pull(0);
        due("told(12), another TIME now", x.told(12), 0);
        x.undo(1);
        due("told(12), undone", x.told(12), 1);
    }

    private static void nodeNoMore() {
        RepeaterWires x = chain(2, 0, 0);
        x.pull(0);
        x.write(0, 0);
        x.write(2, 0);
        x.write(1, 0);
        due("told(12)", x.told(12), NONE);
        x.take();
        due("told(12), 2 is no more", x.told(12), 1);
        x.undo(1);
        due("told(12), it is again", x.told(12), NONE);
        x.take();
        x.take();
        due("told(12), of 2 and 1 the first entry", x.told(12), 1);
        x.node(0, 0, 0);
        due("told(12), 1 is there anew", x.told(12), 1);
        x.node(0, 0, 0);
        due("told(12), 2 is there anew, too", x.told(12), NONE);
        RepeaterWires y = new RepeaterWires();
        y.keep(0);
        y.node(0, 0, 0);
        y.write(1, 2);
        due("told(12)", y.told(12), NONE);
        y.goBack(0);
        due("told(12), it went with what is so", y.told(12), 0);
    }

    private static void noWrongEntry() {
        RepeaterWires x = new RepeaterWires();
        due("told(12), no entries", x.told(12), NONE);
        x.write(0, 0);
        due("told(12), one that is right", x.told(12), NONE);
        x.write(0, 1);
        due("told(12), one that is not", x.told(12), 1);
        x.tear();
        due("told(12), no entries any more", x.told(12), NONE);
    }

    // ---- BY DRAWS

    private static void seedAtFirst() {
        RepeaterWires x = new RepeaterWires();
        due("told(14)", x.told(14), 0);
        due("drift(1)", x.drift(1), 2);
        drawn(x, 1, 0, 8, 8, 5, 198, 1);
        due("told(14), six DRAWS on", x.told(14), 1109335178);
    }

    private static void leftOverByTwoToThe31() {
        // THE SEED that six DRAWS on becomes the least, and that which becomes the greatest
        RepeaterWires x = new RepeaterWires();
        x.seed(1743034534);
        x.drift(1);
        due("told(14), 2 to the 31 itself: 0", x.told(14), 0);
        drawn(x, 1, 0, 0, 7, 8, 63, 0);
        x.seed(1738792541);
        x.drift(1);
        due("told(14), one less", x.told(14), 2147483647);
        due("at(2, 6), drawn of the greatest", x.at(2, 6), 1);
        // from the greatest on
        RepeaterWires y = new RepeaterWires();
        y.seed(2147483647);
        y.drift(5);
        drawn(y, 1, 0, 9, 2, 7, 13, 0);
        drawn(y, 2, 0, 3, 2, 9, 173, 1);
        atAll(y, 3, 0, 6, 9, 1);
        drawn(y, 4, 3, 7, 5, 2, 134, 0);
        drawn(y, 5, 3, 5, 2, 9, 107, 1);
        due("told(14)", y.told(14), 1202922041);
    }

    private static void leastAndMostDraws() {
        RepeaterWires x = new RepeaterWires();
        x.seed(1049953);
        x.drift(1);
        drawn(x, 1, 0, 0, 0, 1, 0, 0);
        RepeaterWires y = new RepeaterWires();
        y.seed(705611);
        y.drift(1);
        drawn(y, 1, 0, 9, 9, 9, 299, 1);
    }

    private static void fewerThanAsked() {
        for (int there = 1; there <= 5; there++) {
            RepeaterWires x = star(there - 1, 0, 0);
            due("drift(6), N " + there, x.drift(6), 6);
            due("told(0)", x.told(0), 6);
            due("told(13), one deed each", x.told(13), 5);
            // THE SEED goes on by six DRAWS for each NODE that came, from 0
            int[] seeds = {0, 1109335178, 1772930244, 1719212846, 1538207304, 371038354};
            due("told(14)", x.told(14), seeds[6 - there]);
        }
    }

    private static void noRoom() {
        for (int n = 1; n <= 6; n++) {
            RepeaterWires x = star(5, 1, 1);
            x.seed(99);
            String was = picture(x);
            due("drift(" + n + ")", x.drift(n), 6);
            same("drift(" + n + ")", picture(x), was);
        }
    }

    private static void justRoom() {
        for (int n = 1; n <= 5; n++) {
            RepeaterWires x = star(5 - n, 0, 0);
            due("drift(" + n + ")", x.drift(n), 6);
            RepeaterWires y = new RepeaterWires();
            due("drift(" + n + ") of the SOURCE alone", y.drift(n), n + 1);
            due("told(13)", y.told(13), n);
        }
    }

    private static void belowADraw() {
        // N 1: the DRAW is made, though it can be 0 alone
        int[] seeds = {0, 2147483647, 1073741824};
        int[][] above = {{0, 1, 1, 0, 1}, {0, 0, 0, 3, 3}, {0, 1, 2, 0, 2}};
        for (int i = 0; i < seeds.length; i++) {
            RepeaterWires x = new RepeaterWires();
            x.seed(seeds[i]);
            x.drift(5);
            for (int v = 1; v <= 5; v++) due("at(" + v + ", 0), by THE SEED " + seeds[i], x.at(v, 0), above[i][v - 1]);
        }
    }

    private static void sixDrawsEach() {
        RepeaterWires x = new RepeaterWires();
        x.seed(1);
        x.drift(1);
        drawn(x, 1, 0, 8, 3, 2, 151, 1);
        due("told(14)", x.told(14), 368800899);
        x.drift(1);
        drawn(x, 2, 0, 9, 2, 1, 49, 1);
        due("told(14)", x.told(14), 836760821);
        x.drift(1);
        drawn(x, 3, 0, 0, 5, 3, 189, 1);
        x.drift(1);
        drawn(x, 4, 1, 6, 6, 2, 95, 1);
        x.drift(1);
        drawn(x, 5, 2, 4, 1, 6, 82, 0);
        due("told(14)", x.told(14), 1686638315);
    }

    // ---- UNDONE

    /** Seven deeds of branched(), and this one: undone, all of section 1 is as ahead of it. */
    private static void oneUndone(String name, Consumer<RepeaterWires> deed) {
        RepeaterWires x = branched();
        String was = section1(x);
        deed.accept(x);
        due("told(13) behind " + name, x.told(13), 8);
        if (section1(x).equals(was)) due(name + " did nothing", 0, 1);
        // what can be had is asked ahead of it, so that it must be found anew behind it
        x.told(8);
        due("undo(1)", x.undo(1), 7);
        same("undo(1) of " + name, section1(x), was);
        due("told(5)", x.told(5), PLUS - 34);
        pointsAre(x, 4, -29, 8, -28, 11, -8);
    }

    private static void endOfNoEndUndone() {
        RepeaterWires x = branched();
        x.end(1, 3, 33, 0);
        x.end(1, 9, 99, 1);
        due("undo(1)", x.undo(1), 8);
        x.take();
        x.take();
        atAll(x, 1, 0, 2, 3, 1, 3, 33, 0);
    }

    private static void eachNodeByDrawsUndone() {
        RepeaterWires x = new RepeaterWires();
        x.drift(5);
        for (int left = 4; left >= 0; left--) {
            due("undo(1)", x.undo(1), left);
            due("told(0)", x.told(0), left + 1);
        }
        due("undo(1)", x.undo(1), NOT);
    }

    /** Six NODES and three KINDS with numbers of their own each; by so many deeds all of them become others. */
    private static RepeaterWires varied() {
        RepeaterWires x = chain(5, 1, 1);
        for (int v = 1; v <= 5; v++) {
            x.wire(v, 9 - v, v, 1 + v % 2);
            x.end(v, 10 - v, 90 + v, v % 2);
        }
        for (int k = 1; k <= 3; k++) x.kind(k, 10 - k, 5 + k, 30 + k, 60 + k, k % 2);
        for (int v = 1; v <= 5; v++) x.place(v, 1 + v % 3);
        x.pull(4);
        return x;
    }

    /** The NODES from 1 on, that are no ENDS, show what was told of them as those behind them are taken. */
    private static String section1AndTaken(RepeaterWires x) {
        StringBuilder all = new StringBuilder(section1(x));
        while (x.take() != NOT) {
            int v = x.told(0) - 1;
            for (int what = 0; what <= 7; what++) all.append(x.at(v, what)).append(' ');
        }
        return all.toString();
    }

    private static void varyAll(RepeaterWires x) {
        for (int v = 1; v <= 5; v++) x.wire(v, v, 9 - v, 2 - v % 2);
        for (int v = 1; v <= 5; v++) x.end(v, v, 20 + v, 1 - v % 2);
        for (int k = 1; k <= 3; k++) x.kind(k, k, k, k, k, 1 - k % 2);
        x.pull(5);
    }

    /** All NODES but the SOURCE go, and as many come, each BELOW another one than ahead of that. */
    private static void standOtherwise(RepeaterWires x) {
        for (int v = 1; v <= 5; v++) x.take();
        for (int v = 1; v <= 5; v++) x.node(Math.max(0, v - 2), 0, 0);
    }

    private static void allOfSection1Undone() {
        String want = section1AndTaken(varied());
        RepeaterWires x = varied();
        varyAll(x);
        due("undo(14)", x.undo(14), 2);
        same("undo(14)", section1AndTaken(x), want);
        RepeaterWires y = varied();
        standOtherwise(y);
        due("undo(10)", y.undo(10), 6);
        same("undo(10)", section1AndTaken(y), want);
        RepeaterWires z = varied();
        for (int v = 1; v <= 5; v++) z.place(v, 0);
        for (int k = 1; k <= 3; k++) z.drop(k);
        due("undo(8)", z.undo(8), 8);
        same("undo(8)", section1AndTaken(z), want);
    }

    private static void latestFirst() {
        RepeaterWires x = new RepeaterWires();
        for (int p = 2; p <= 9; p++) x.pull(p);
        due("undo(1)", x.undo(1), 7);
        due("told(2)", x.told(2), 8);
        due("undo(3)", x.undo(3), 4);
        due("told(2)", x.told(2), 5);
        due("undo(5), there are 4", x.undo(5), NOT);
        due("told(2)", x.told(2), 5);
        due("undo(4), all", x.undo(4), 0);
        due("told(2), as at first", x.told(2), 1);
        due("undo(1), there are none", x.undo(1), NOT);
    }

    private static void noOtherDeeds() {
        RepeaterWires x = branched();
        x.told(8);
        x.at(1, 10);
        x.kindAt(1, 0);
        x.candidates(0, 0);
        x.candidate(0, 0, 0, 0);
        x.point(0, 0);
        x.best(9);
        x.least(9);
        x.would(1, 2);
        x.write(0, 0);
        x.tear();
        x.seed(5);
        due("told(13)", x.told(13), 7);
        x.undo(2);
        due("told(13), what was undone is none, either", x.told(13), 5);
        x.node(9, 0, 0);
        x.pull(10);
        x.place(0, 0);
        due("told(13), what is refused is none", x.told(13), 5);
    }

    private static void deedsThatChangeNothing() {
        RepeaterWires x = branched();
        x.pull(1);
        x.place(2, 0);
        x.end(2, 4, 50, 0);
        x.wire(2, 1, 4, 1);
        x.kind(1, 2, 1, 3, 7, 0);
        due("told(13)", x.told(13), 12);
        due("undo(5)", x.undo(5), 7);
        due("told(0)", x.told(0), 4);
    }

    private static void sixteenDeeds() {
        RepeaterWires x = new RepeaterWires();
        x.pull(5);
        for (int i = 1; i <= 15; i++) {
            due("told(13)", x.told(13), i);
            x.pull(i % 10);
        }
        due("told(13)", x.told(13), 16);
        due("undo(16)", x.undo(16), 0);
        due("told(2), as at first", x.told(2), 1);
        due("undo(1)", x.undo(1), NOT);
    }

    private static void moreThanSixteenDeeds() {
        for (int more = 1; more <= 33; more += 4) {
            RepeaterWires x = new RepeaterWires();
            for (int i = 1; i <= 16 + more; i++) x.pull(i % 10);
            due("told(13), 16 and " + more, x.told(13), 16);
            due("undo(17)", x.undo(17), OUTSIDE);
            due("undo(16)", x.undo(16), 0);
            due("told(2), as ahead of the 16 latest", x.told(2), more % 10);
            due("undo(1)", x.undo(1), NOT);
        }
    }

    private static void roundAndRound() {
        RepeaterWires x = new RepeaterWires();
        for (int i = 1; i <= 16; i++) x.pull(i % 10);
        for (int round = 0; round < 20; round++) {
            due("undo(3)", x.undo(3), 13);
            due("told(2), as behind the 13th", x.told(2), 3);
            x.pull(7);
            x.pull(8);
            x.pull(9);
            due("told(13)", x.told(13), 16);
        }
        x.pull(0);
        due("told(13)", x.told(13), 16);
        due("undo(16)", x.undo(16), 0);
        due("told(2), as behind the first", x.told(2), 1);
        due("told(0)", x.told(0), 1);
    }

    private static void seedAndBookStay() {
        RepeaterWires x = new RepeaterWires();
        x.drift(2);
        x.write(1, 5);
        x.write(0, 0);
        int seed = 1772930244;
        due("told(14)", x.told(14), seed);
        due("undo(2)", x.undo(2), 0);
        due("told(14)", x.told(14), seed);
        due("told(11)", x.told(11), 2);
        due("told(12), 1 is no more", x.told(12), 0);
        x.pull(4);
        x.seed(3);
        x.tear();
        due("undo(1)", x.undo(1), 0);
        due("told(14), a SEED told behind the deed", x.told(14), 3);
        due("told(11), a BOOK torn behind the deed", x.told(11), 0);
    }

    private static void sinceTheImageKept() {
        for (int i = 0; i <= 1; i++) {
            RepeaterWires x = branched();
            due("keep(" + i + ")", x.keep(i), 1);
            due("told(13)", x.told(13), 0);
            due("undo(1)", x.undo(1), NOT);
            due("told(0)", x.told(0), 4);
            x.pull(5);
            due("told(13)", x.told(13), 1);
            due("undo(2)", x.undo(2), NOT);
            due("undo(1)", x.undo(1), 0);
            due("told(2)", x.told(2), 1);
            due("told(0)", x.told(0), 4);
        }
    }

    private static void sinceTheImageGoneBackTo() {
        for (int i = 0; i <= 1; i++) {
            RepeaterWires x = branched();
            x.keep(i);
            x.take();
            x.pull(5);
            due("told(13)", x.told(13), 2);
            due("goBack(" + i + ")", x.goBack(i), 1);
            due("told(13)", x.told(13), 0);
            due("undo(1)", x.undo(1), NOT);
            due("told(0)", x.told(0), 4);
            x.pull(6);
            x.pull(7);
            due("undo(2)", x.undo(2), 0);
            due("told(2)", x.told(2), 1);
        }
    }

    // ---- IMAGES

    private static void twoImages() {
        RepeaterWires x = new RepeaterWires();
        due("goBack(0), not kept", x.goBack(0), NOT);
        due("goBack(1), not kept", x.goBack(1), NOT);
        x.pull(2);
        due("keep(1)", x.keep(1), 1);
        due("goBack(0), not kept", x.goBack(0), NOT);
        x.pull(3);
        due("keep(0)", x.keep(0), 1);
        x.pull(4);
        due("goBack(1)", x.goBack(1), 1);
        due("told(2)", x.told(2), 2);
        due("goBack(0)", x.goBack(0), 1);
        due("told(2)", x.told(2), 3);
        due("keep(-1)", x.keep(-1), UNKNOWN);
        due("keep(2)", x.keep(2), UNKNOWN);
        due("goBack(-1)", x.goBack(-1), UNKNOWN);
        due("goBack(2)", x.goBack(2), UNKNOWN);
    }

    /** All that section 1 tells is otherwise between the two, even which KINDS there are and what the NODES stand BELOW. */
    private static void imageOfSection1() {
        RepeaterWires x = branched();
        x.place(2, 1);
        x.place(3, 2);
        String first = section1(x);
        x.keep(0);
        x.take();
        x.take();
        x.take();
        x.drop(2);
        x.kind(1, 9, 8, 7, 6, 1);
        x.kind(3, 4, 4, 4, 4, 1);
        for (int v = 1; v <= 5; v++) x.node(v - 1, v, v);
        x.wire(1, 5, 6, 2);
        x.end(5, 7, 77, 1);
        x.place(1, 3);
        x.place(5, 1);
        x.pull(9);
        String second = section1(x);
        x.keep(1);
        x.told(8);
        x.goBack(0);
        same("goBack(0)", section1(x), first);
        pointsAre(x, 4, -29, 8, -28, 11, -8);
        x.goBack(1);
        same("goBack(1)", section1(x), second);
        // every number of every NODE and KIND, of those too that are no ENDS
        for (int i = 0; i <= 1; i++) {
            RepeaterWires y = varied();
            y.keep(i);
            varyAll(y);
            standOtherwise(y);
            y.goBack(i);
            same("goBack(" + i + ")", section1AndTaken(y), section1AndTaken(varied()));
        }
    }

    private static void imageOfTheSeed() {
        RepeaterWires x = new RepeaterWires();
        x.keep(0);
        x.seed(2147483647);
        x.keep(1);
        due("goBack(0)", x.goBack(0), 1);
        due("told(14)", x.told(14), 0);
        x.drift(1);
        due("told(14)", x.told(14), 1109335178);
        due("goBack(1)", x.goBack(1), 1);
        due("told(14)", x.told(14), 2147483647);
        x.goBack(0);
        x.drift(1);
        drawn(x, 1, 0, 8, 8, 5, 198, 1);
    }

    private static void noImageOfTheBook() {
        RepeaterWires x = new RepeaterWires();
        x.write(0, 0);
        x.keep(0);
        due("told(11), keep() leaves it", x.told(11), 1);
        x.write(0, 7);
        due("goBack(0)", x.goBack(0), 1);
        due("told(11), goBack() leaves it", x.told(11), 2);
        due("told(12)", x.told(12), 1);
        x.tear();
        x.goBack(0);
        due("told(11), torn is torn", x.told(11), 0);
    }

    private static void imageOfTheSource() {
        RepeaterWires x = new RepeaterWires();
        x.keep(1);
        x.drift(6);
        x.kind(1, 1, 1, 1, 1, 1);
        x.pull(9);
        x.goBack(1);
        toldAll(x, 1, 0, 1, 0, 0, PLUS + NEVER, NONE, 0, 1, PLUS + NEVER, NONE, 0, NONE, 0, 0);
        due("at(1, 0)", x.at(1, 0), UNKNOWN);
        due("kindAt(1, 0)", x.kindAt(1, 0), UNKNOWN);
        rowIs(x, 0, 0, 0, NEVER, 0);
        due("undo(1)", x.undo(1), NOT);
    }

    private static void imageStays() {
        RepeaterWires x = branched();
        String was = section1(x);
        x.keep(0);
        for (int i = 0; i < 3; i++) {
            x.wire(1, 9, 9, 2);
            x.end(2, 9, 9, 1);
            x.kind(1, 9, 9, 9, 9, 1);
            x.place(3, 1);
            x.pull(i);
            x.drift(1);
            due("goBack(0)", x.goBack(0), 1);
            same("goBack(0)", section1(x), was);
        }
        // the other one, or a refused one, does not touch it; kept anew it is another
        x.pull(7);
        x.keep(1);
        x.keep(2);
        x.goBack(0);
        same("goBack(0)", section1(x), was);
        x.pull(8);
        x.keep(0);
        x.pull(0);
        x.goBack(0);
        due("told(2), kept anew", x.told(2), 8);
    }
}
