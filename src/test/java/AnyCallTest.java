import java.lang.reflect.InvocationTargetException;
import java.lang.reflect.Method;
import java.lang.reflect.Modifier;
import java.util.ArrayList;
import java.util.Arrays;
import java.util.Comparator;
import java.util.List;
import java.util.Random;
import java.util.Set;

/**
 * Rule 7 of LANGUAGE.md: no call may ever throw, for any arguments in any state. Every call of the face, with any numbers
 * at all, in any order, also far beyond the 512 calls of which the answers are promised.
 */
public final class AnyCallTest extends Sheet {
    private static final int[] EDGES = {MIN, MIN + 1, UNKNOWN, OUTSIDE, -100, -2, -1, 0, 1, 2, 3, 4, 5, 6, 7, 9, 10, 15, 16,
        17, 20, 99, 100, 1023, 1024, 9999, 10000, NEVER, PLUS, MAX - 1, MAX};
    private static final Set<String> TAKING_AWAY = Set.of("take", "tear", "undo", "drop", "keep", "goBack");
    private static final int RUNS = 60;
    private static final int CALLS = 3000;
    // the draws of seeds that are near each other are near each other, too
    private static final long APART = 0x9E3779B97F4A7C15L;

    private static int mostNodes = 0;
    private static int mostEntries = 0;
    private static int mostUndone = 0;
    private static int mostKinds = 0;
    private static int mostCandidates = 0;

    private AnyCallTest() { }

    public static void main(String[] args) throws IllegalAccessException {
        List<Method> face = face();
        fresh(face);
        for (int run = 1; run <= RUNS; run++) {
            about = "any calls, run " + run;
            // every second run takes away as often as it adds; the others pile up
            List<Method> leaning = run % 2 == 0 ? face : pilingUp(face);
            due("calls that threw", thrown(leaning, new Random(run * APART), run / 2 % 3), 0);
        }
        about = "states that the runs came to";
        due("NODES", mostNodes, 6);
        due("entries of THE BOOK", mostEntries, 20);
        due("deeds that can be undone", mostUndone, 16);
        due("KINDS", mostKinds, 3);
        due("more CANDIDATES than the first room holds", mostCandidates > 16 ? 1 : 0, 1);
        finish("AnyCallTest");
    }

    // reflection tells methods in no fixed order
    private static List<Method> face() {
        List<Method> all = new ArrayList<>();
        for (Method m : RepeaterWires.class.getDeclaredMethods()) {
            if (Modifier.isPublic(m.getModifiers())) all.add(m);
        }
        all.sort(Comparator.comparing(Method::getName));
        return all;
    }

    private static List<Method> pilingUp(List<Method> face) {
        List<Method> all = new ArrayList<>();
        for (Method m : face) {
            for (int i = 0; i < (TAKING_AWAY.contains(m.getName()) ? 1 : 30); i++) all.add(m);
        }
        return all;
    }

    /** Each call on an object of its own, all its numbers the same edge. */
    private static void fresh(List<Method> face) throws IllegalAccessException {
        about = "a new object";
        for (Method m : face) {
            for (int edge : EDGES) {
                Object[] numbers = new Object[m.getParameterCount()];
                Arrays.fill(numbers, edge);
                due(m.getName() + " of " + edge, throwsAt(new RepeaterWires(), m, numbers) ? 1 : 0, 0);
            }
        }
    }

    private static int thrown(List<Method> leaning, Random dice, int wildness) throws IllegalAccessException {
        RepeaterWires x = new RepeaterWires();
        int thrown = 0;
        for (int call = 0; call < CALLS && thrown == 0; call++) {
            Method m = leaning.get(dice.nextInt(leaning.size()));
            Object[] numbers = new Object[m.getParameterCount()];
            for (int i = 0; i < numbers.length; i++) numbers[i] = any(dice, wildness);
            if (throwsAt(x, m, numbers)) thrown++;
            if (call % 50 == 0 && thrown == 0) look(x);
        }
        return thrown;
    }

    private static void look(RepeaterWires x) {
        mostNodes = Math.max(mostNodes, x.told(0));
        mostEntries = Math.max(mostEntries, x.told(11));
        mostUndone = Math.max(mostUndone, x.told(13));
        mostKinds = Math.max(mostKinds, Integer.bitCount(x.told(3)));
        for (int t = 0; t < 2; t++) mostCandidates = Math.max(mostCandidates, x.candidates(0, t));
    }

    // small numbers make states in which there is much to go wrong, wild ones try what is refused
    private static int any(Random dice, int wildness) {
        int roll = dice.nextInt(12);
        if (roll < wildness) return dice.nextInt();
        if (roll < 2 * wildness) return EDGES[dice.nextInt(EDGES.length)];
        return dice.nextInt(roll == 11 ? 60 : roll > 8 ? 10 : 3);
    }

    private static boolean throwsAt(RepeaterWires x, Method m, Object[] numbers) throws IllegalAccessException {
        try {
            m.invoke(x, numbers);
            return false;
        } catch (InvocationTargetException e) {
            System.out.println(m.getName() + Arrays.toString(numbers) + " threw " + e.getCause());
            return true;
        }
    }
}
