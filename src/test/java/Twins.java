import java.util.ArrayList;
import java.util.List;

/**
 * Two objects with the same calls behind them. A refused call to one of them may not show in what it tells then, nor in
 * what later calls do; a call that is taken has to leave all as the oracle's does.
 */
final class Twins {
    /** An object is used for at most so many calls. */
    private static final int MOST_CALLS = 512;
    private static final int[][] ASKED = asked();
    private static final int[][] GOES_ON = Calls.run("not 0 0; not 5 5; swap 1 1 0 2; swap 4 4 1 2; both 3 3 0; "
        + "either 2 2 5; some 1 1 0; all 4 4 1; some 5 5 2; place 1 2 3 1; tells 0 0 1; alike 3 1 2; both 3 3 0; drop 2");

    private final Due due;

    Twins(Due due) {
        this.due = due;
    }

    private static int[][] asked() {
        StringBuilder text = new StringBuilder("many 0; many 1; row 0; row 1; row 6; row 1000000000");
        for (int p = 0; p < 5; p++) {
            for (int what = 0; what < 3; what++) {
                text.append("; ofPlace ").append(p).append(' ').append(what);
            }
        }
        for (int k = 0; k < 6; k++) {
            for (String what : new String[] {"kinds %d", "depends %d", "below %d 0", "below %d 1", "below %d 2",
                "below %d 5", "below %d 12", "holds %d 0 0 0", "holds %d 1 2 3", "holds %d 6 9 3",
                "holds %d 1000000 1000000000 1000000", "least %d 0", "least %d 1", "least %d 2"}) {
                text.append("; ").append(String.format(what, k));
            }
            for (int other = 0; other < k; other++) {
                text.append("; same ").append(other).append(' ').append(k);
            }
        }
        return Calls.run(text.toString());
    }

    private static List<Long> answers(Object x, int[][] calls) {
        List<Long> all = new ArrayList<>();
        for (int[] c : calls) {
            all.add(Calls.of(x, c));
        }
        return all;
    }

    private static void isWithin(int calls) {
        if (calls > MOST_CALLS) {
            throw new IllegalStateException("a run of " + calls + " calls");
        }
    }

    /** The answer is due, and what was there before is there still, as if the call had not been. */
    void refused(String sentence, long want, int[][] run, int... call) {
        isWithin(run.length + 1 + 2 * ASKED.length + GOES_ON.length);
        String name = sentence + ": " + Calls.text(call);
        DigitClaims x = new DigitClaims();
        DigitClaims twin = new DigitClaims();
        due.holds(name + ", the run ahead", answers(x, run).equals(answers(twin, run)));
        due.due(name, Calls.of(x, call), want);
        due.holds(name + ": nothing has changed behind it", answers(x, ASKED).equals(answers(twin, ASKED)));
        due.holds(name + ": all goes on as without it", answers(x, GOES_ON).equals(answers(twin, GOES_ON)));
        due.holds(name + ": to the end", answers(x, ASKED).equals(answers(twin, ASKED)));
    }

    void refused(String sentence, long want, String run, String call) {
        refused(sentence, want, Calls.run(run), Calls.call(call));
    }

    /** The answer is due, and what it leaves behind is as the oracle's. */
    void taken(String sentence, long want, int[][] run, int... call) {
        isWithin(run.length + 1 + ASKED.length);
        String name = sentence + ": " + Calls.text(call);
        DigitClaims x = new DigitClaims();
        Oracle oracle = new Oracle();
        due.holds(name + ", the run ahead", answers(x, run).equals(answers(oracle, run)));
        due.due(name, Calls.of(x, call), want);
        due.due(name + ", the oracle", Calls.of(oracle, call), want);
        due.holds(name + ": what is behind it", answers(x, ASKED).equals(answers(oracle, ASKED)));
    }

    void taken(String sentence, long want, String run, String call) {
        taken(sentence, want, Calls.run(run), Calls.call(call));
    }
}
