import java.util.Map;

/**
 * Each bound of each call's line: the first and the last number that are taken, the numbers just beyond them and those
 * farthest off, which are refused; and of a refused call, that nothing has changed behind it.
 */
public final class BoundsTest {
    private static final int UNKNOWN = -1, OUTSIDE = -2;
    private static final Due DUE = new Due();
    private static final Twins TWINS = new Twins(DUE);

    /** All six claims are there, so that only a bound can refuse a call. */
    private static final String RUN = "place 0 0 1 2; place 1 2 0 1; place 2 1 2 0; less 0 0 1; sum 1 0 1; "
        + "tells 2 2 1; is 3 1 9; equal 4 0 2; alike 5 1 2";

    private record Bound(int first, int last, long refusal) { }

    private static final Map<String, Bound> BOUNDS = Map.of(
        "claim", new Bound(0, 5, UNKNOWN),
        "number", new Bound(0, 2, UNKNOWN),
        "place", new Bound(0, 4, UNKNOWN),
        "telling", new Bound(0, 2, OUTSIDE),
        "of-place", new Bound(0, 2, OUTSIDE),
        "of-all", new Bound(0, 1, OUTSIDE),
        "told", new Bound(0, 1000000000, OUTSIDE),
        "fixed", new Bound(0, 1000000, OUTSIDE),
        "digits", new Bound(0, 12, DigitClaims.LOST));

    /** A promise, a call that is taken, the bounds of its arguments. */
    private static final String[][] LINES = {
        {"2", "place 1 0 1 1", "place place place telling"},
        {"3", "ofPlace 1 1", "place of-place"},
        {"4", "row 5", "told"},
        {"5", "equal 3 1 0", "claim number number"},
        {"6", "less 3 1 0", "claim number number"},
        {"7", "sum 3 1 0", "claim number number"},
        {"8", "is 3 1 9", "claim number fixed"},
        {"9", "tells 3 1 1", "claim number telling"},
        {"10", "alike 3 1 0", "claim number number"},
        {"11", "both 3 1 2", "claim claim claim"},
        {"12", "either 3 1 2", "claim claim claim"},
        {"13", "not 3 1", "claim claim"},
        {"14", "swap 3 2 1 0", "claim claim number number"},
        {"15", "some 3 2 1", "claim claim number"},
        {"16", "all 3 2 1", "claim claim number"},
        {"17", "holds 1 5 6 11", "claim told told told"},
        {"18", "depends 3", "claim"},
        {"19", "kinds 3", "claim"},
        {"20", "below 3 5", "claim digits"},
        {"21", "least 3 1", "claim number"},
        {"22", "same 3 1", "claim claim"},
        {"23", "drop 3", "claim"},
        {"24", "many 1", "of-all"},
    };

    public static void main(String[] args) {
        for (String[] line : LINES) {
            String[] bounds = line[2].split(" ");
            DUE.due(line[1] + " has a bound for each argument", bounds.length, Calls.call(line[1]).length - 1);
            for (int at = 0; at < bounds.length; at++) {
                bothSides(line, at + 1, BOUNDS.get(bounds[at]));
            }
        }
        theyAreOne();
        DUE.end();
    }

    private static void bothSides(String[] line, int argument, Bound bound) {
        String name = "promise " + line[0] + ", argument " + argument;
        // Where a long is told, LOST stands for any refusal.
        long refusal = line[1].startsWith("below") ? DigitClaims.LOST : bound.refusal;
        for (int number : new int[] {bound.first, bound.last}) {
            int[] call = with(line, argument, number);
            TWINS.taken(name, answered(name, call), Calls.run(RUN), call);
        }
        for (int number : new int[] {bound.first - 1, bound.last + 1, Integer.MIN_VALUE, Integer.MAX_VALUE}) {
            int[] call = with(line, argument, number);
            TWINS.refused(name, refusal, Calls.run(RUN), call);
        }
    }

    private static int[] with(String[] line, int argument, int number) {
        int[] call = Calls.call(line[1]);
        call[argument] = number;
        // Beside NUMBER 1 each of 0 and 2 can stand.
        if (line[2].contains("number number") && argument == call.length - 2) {
            call[argument + 1] = 1;
        }
        return call;
    }

    /** What the oracle answers, which is no refusal. */
    private static long answered(String name, int[] call) {
        Oracle oracle = new Oracle();
        for (int[] c : Calls.run(RUN)) {
            Calls.of(oracle, c);
        }
        long answer = Calls.of(oracle, call);
        DUE.holds(name + ": " + Calls.text(call) + " is taken", answer >= 0);
        return answer;
    }

    /** "UNKNOWN: .. NUMBERS (they are one: so, too)" */
    private static void theyAreOne() {
        for (int u = 0; u < 3; u++) {
            for (String call : new String[] {"equal 3", "less 3", "sum 3", "alike 3", "swap 3 2"}) {
                TWINS.refused("they are one: so, too", UNKNOWN, RUN, call + " " + u + " " + u);
            }
        }
    }
}
