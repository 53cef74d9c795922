/**
 * "REFUSALS: of a call's line the first that fits is answered, in the order told there .. they change nothing": calls
 * that more than one refusal fits, for each two that can fit one call.
 */
public final class OrderTest {
    private static final int UNKNOWN = -1, OUTSIDE = -2, STATE = -3, OVER = -5, SPENT = -6;
    private static final Due DUE = new Due();
    private static final Twins TWINS = new Twins(DUE);

    private static final String ROW = "place 0 0 4 2; place 1 3 3 1; place 2 0 3 0; place 3 3 0 0; place 4 3 1 0; ";
    /** Claim 0: NUMBER 2 is 29 more than NUMBER 0, whose ROW is 1. Said of some NUMBER 0 it has too many KINDS. */
    private static final String SPENT_BY_0 = ROW + "is 0 1 29; sum 1 0 1; both 0 0 1; some 0 0 1; tells 1 0 1; "
        + "both 0 0 1; drop 1";
    /** Claims 0 and 1 have 25 KINDS each, together too many. Claims 4 and 5 are not there. */
    private static final String SPENT_TOGETHER = "place 0 0 1 0; place 1 2 3 1; place 2 4 1 2; place 3 0 4 0; "
        + "place 4 3 2 1; alike 0 0 1; alike 1 1 2; equal 2 0 1; sum 3 0 1";
    private static final String SOME_THERE = ROW + "less 0 0 1; sum 1 0 1; is 2 2 9; equal 3 0 2";

    public static void main(String[] args) {
        theRow();
        plainClaims();
        madeClaims();
        whatIsTold();
        spentAheadOfOver();
        DUE.end();
    }

    private static void refused(long want, String run, String... calls) {
        for (String call : calls) {
            TWINS.refused("the first that fits", want, run, call);
        }
    }

    private static void theRow() {
        refused(STATE, SOME_THERE, "place 0 1 0 0");
        refused(OUTSIDE, SOME_THERE, "place 0 1 0 3", "place 0 4 4 -1");
        refused(UNKNOWN, SOME_THERE, "place 0 5 0 0", "place 0 -1 0 0", "place 0 1 5 0", "place 0 1 -1 2");
        refused(UNKNOWN, SOME_THERE, "place 5 0 0 3", "place 1 5 0 3", "place 1 0 5 -1", "place -1 0 0 -1");
        refused(UNKNOWN, SOME_THERE, "place 0 5 0 3", "place 0 1 5 3", "place 5 5 5 3");
        refused(UNKNOWN, SOME_THERE, "ofPlace 5 3", "ofPlace -1 -1", "ofPlace 5 -1", "ofPlace -1 3");
    }

    private static void plainClaims() {
        refused(UNKNOWN, SOME_THERE, "is 6 0 1000001", "is 0 3 1000001", "is -1 0 -1", "is 0 -1 -1", "is 6 3 -1");
        refused(UNKNOWN, SOME_THERE, "tells 6 0 3", "tells 0 3 3", "tells -1 0 -1", "tells 0 -1 -1", "tells 6 3 3");
    }

    private static void madeClaims() {
        TWINS.taken("25 KINDS", 25, SPENT_TOGETHER, "kinds 0");
        TWINS.taken("25 KINDS", 25, SPENT_TOGETHER, "kinds 1");
        for (String two : new String[] {"both", "either"}) {
            refused(UNKNOWN, SOME_THERE, two + " 6 4 0", two + " 6 0 4", two + " 0 6 4", two + " 0 4 6",
                two + " -1 4 5", two + " 0 -1 4", two + " 0 4 -1", two + " 0 5 6", two + " 0 6 5");
            refused(STATE, SPENT_TOGETHER, two + " 4 4 1", two + " 4 0 4", two + " 2 4 5");
            refused(UNKNOWN, SPENT_TOGETHER, two + " 6 0 1", two + " -1 0 1");
            refused(SPENT, SPENT_TOGETHER, two + " 4 0 1", two + " 0 0 1", two + " 1 0 1", two + " 2 1 0");
        }
        refused(UNKNOWN, SOME_THERE, "not 6 4", "not -1 5", "not 6 6");
        refused(UNKNOWN, SOME_THERE, "swap 6 4 0 1", "swap 0 4 3 1", "swap 0 4 0 3", "swap 0 4 1 1", "swap 0 4 -1 1",
            "swap 0 4 0 -1", "swap -1 5 0 1", "swap 0 6 0 1");
        for (String said : new String[] {"some", "all"}) {
            refused(UNKNOWN, SOME_THERE, said + " 6 4 0", said + " -1 4 0", said + " 0 4 3", said + " 0 4 -1");
        }
        refused(SPENT, SPENT_BY_0, "some 1 0 0", "some 0 0 0");
        refused(UNKNOWN, SPENT_BY_0, "some 6 0 0", "some -1 0 0", "some 1 0 3", "some 1 0 -1");
        refused(STATE, SPENT_BY_0, "some 0 1 0");
        refused(SPENT, SPENT_BY_0 + "; not 0 0", "all 1 0 0", "all 0 0 0");
        refused(UNKNOWN, SPENT_BY_0 + "; not 0 0", "all 6 0 0", "all -1 0 0", "all 1 0 3", "all 1 0 -1");
        refused(STATE, SPENT_BY_0 + "; not 0 0", "all 0 1 0");
    }

    private static void whatIsTold() {
        refused(UNKNOWN, SOME_THERE, "holds 6 -1 0 0", "holds 6 0 1000000001 0", "holds -1 0 0 -1");
        refused(OUTSIDE, SOME_THERE, "holds 4 -1 0 0", "holds 4 0 -1 0", "holds 4 0 0 -1", "holds 5 1000000001 0 0",
            "holds 5 0 1000000001 0", "holds 5 0 0 1000000001");
        refused(STATE, SOME_THERE, "holds 4 0 0 0", "holds 5 1000000000 1000000000 1000000000");
        refused(DigitClaims.LOST, SOME_THERE, "below 6 13", "below -1 -1", "below 4 13", "below 4 -1", "below 4 12");
        refused(UNKNOWN, SOME_THERE, "least 4 3", "least 4 -1", "least 6 0", "least 6 3");
        refused(STATE, SOME_THERE, "least 4 0", "least 5 2");
        refused(SPENT, SPENT_BY_0, "least 0 1", "least 0 2");
        refused(UNKNOWN, SPENT_BY_0, "least 0 3", "least 0 -1");
        refused(UNKNOWN, SOME_THERE, "same 6 4", "same 4 6", "same -1 4", "same 4 -1", "same 0 6", "same 6 0");
        refused(STATE, SOME_THERE, "same 0 4", "same 4 0", "same 4 4", "same 4 5");
    }

    /** Claim 0 moved on by 25 digits 0: NUMBER 2 is 32 times 2 to the 25 at least, and claim 0 is as SPENT as ever. */
    private static void spentAheadOfOver() {
        // Claim 2: NUMBER 1 is NUMBER 0 twice; claim 3: NUMBER 1 is NUMBER 2 twice.
        StringBuilder run = new StringBuilder(SPENT_BY_0 + "; equal 2 0 2; sum 4 0 2; both 2 2 4; some 3 2 0; "
            + "some 2 2 2");
        for (int digit = 0; digit < 25; digit++) {
            run.append("; both 0 0 2; some 0 0 0; swap 0 0 0 1; both 0 0 3; some 0 0 2; swap 0 0 2 1");
        }
        refused(SPENT, run.toString(), "least 0 2");
        isOverToo(Calls.run(run.toString()));
    }

    /** There is no three with NUMBER 2 below 2 to the 30, which is above 1000000000. */
    private static void isOverToo(int[][] run) {
        DigitClaims x = new DigitClaims();
        for (int[] call : run) {
            Calls.of(x, call);
        }
        x.is(1, 0, 1 << 19);
        for (int digit = 19; digit < 30; digit++) {
            x.both(1, 1, 2);
            x.some(1, 1, 0);
            x.swap(1, 1, 0, 1);
        }
        DUE.due("2 to the 30 is over", x.least(1, 0), OVER);
        x.less(4, 2, 0);
        x.both(4, 4, 1);
        DUE.due("below 2 to the 30", x.some(4, 4, 0), 32);
        DUE.due("none of the SPENT claim is below 2 to the 30", x.both(4, 4, 0), 1);
        DUE.due("none at all", x.least(4, 2), DigitClaims.NONE);
        DUE.holds("but it holds of some", x.kinds(0) > 1);
    }
}
