import java.util.Arrays;

/** The limits: 60 KINDS, 300 unlike sets, 1000000000 told; on both sides of each. */
public final class LimitsTest {
    private static final int X = 0, Y = 1, Z = 2;
    private static final int OVER = -5, SPENT = -6;
    /** What no call answers. */
    private static final int UNTOLD = -100;
    /** Claim 5: NUMBER 2 is NUMBER 0 twice. */
    private static final String TWICE = "equal 5 0 1; sum 4 0 1; both 5 5 4; some 5 5 1; drop 4";
    private static final Due DUE = new Due();
    private static final Twins TWINS = new Twins(DUE);

    private static void due(String what, long got, long want) {
        DUE.due(what, got, want);
    }

    public static void main(String[] args) {
        toldUpToABillion();
        overForEachNumber();
        sixtyKindsOfANumber();
        sixtyKindsOfMultiples();
        kindsOfJoined();
        kindsOfSaid();
        setsOfSaid();
        setsInOtherPlaces();
        leastAtTheFirstStep();
        leastAtTheSecondStep();
        leastIsSpentInOrder();
        theDearest();
        manyStatesFewKinds();
        farMoreCalls();
        DUE.end();
    }

    /** The last of the calls is the one that counts: taken as the oracle does, or refused with nothing changed. */
    private static void run(String what, long want, int[]... calls) {
        int[][] ahead = Arrays.copyOf(calls, calls.length - 1);
        int[] last = calls[calls.length - 1];
        TWINS.taken(what, want, ahead, last);
        if (want < 0) {
            TWINS.refused(what, want, ahead, last);
        }
    }

    /** The same with calls as texts. */
    private static void run(String what, long want, String calls) {
        run(what, want, Calls.run(calls));
    }

    /** Claim 0: NUMBER 0 is a number of so many digits; it has 2 KINDS more. Claim 5 is TWICE. */
    private static String numberOf(int digits) {
        return TWICE + "; is 0 0 1000000" + doubled(digits - 20);
    }

    private static String powerOfTwo(int power) {
        return TWICE + "; is 0 0 524288" + doubled(power - 19);
    }

    /** From claim 0, NUMBER 0 is a number, to the number so many times doubled. */
    private static String doubled(int times) {
        return "; both 0 0 5; some 0 0 0; swap 0 0 0 2".repeat(times);
    }

    /** From claim 0, NUMBER 0 is a number, to the number that is so much more. */
    private static String more(int much) {
        return "; is 1 1 " + much + "; both 0 0 1; sum 1 0 1; both 0 0 1; some 0 0 0; some 0 0 1; swap 0 0 0 2; drop 1";
    }

    private static void makeTwice(DigitClaims x) {
        for (int[] call : Calls.run(TWICE)) {
            Calls.of(x, call);
        }
    }

    /** From claim 0, x is a number, to claim 0, x is twice that; answers the KINDS, or SPENT at the joining. */
    private static int twice(DigitClaims x) {
        int joined = x.both(1, 0, 5);
        if (joined == SPENT) {
            return SPENT;
        }
        x.some(1, 1, X);
        return x.swap(0, 1, X, Z);
    }

    /** From claim 0, x is a number, to claim 0, x is one more. */
    private static void oneMore(DigitClaims x) {
        x.is(1, Y, 1);
        x.sum(2, X, Y);
        x.both(1, 1, 2);
        x.both(1, 1, 0);
        x.some(1, 1, X);
        x.some(1, 1, Y);
        x.swap(0, 1, X, Z);
    }

    private static void toldUpToABillion() {
        DigitClaims x = new DigitClaims();
        makeTwice(x);
        x.is(0, X, 976562);
        twice(x);
        oneMore(x);
        due("976562 twice and 1", x.least(0, X), 1953125);
        for (int time = 0; time < 9; time++) {
            twice(x);
        }
        due("a billion", x.least(0, X), 1000000000);
        due("a billion holds", x.holds(0, 1000000000, 0, 0), 1);
        due("a billion, its kinds", x.kinds(0), 32);
        due("another number", x.least(0, Y), 0);
        oneMore(x);
        due("a billion and 1", x.least(0, X), OVER);
        due("it is there", x.kinds(0), 32);
        due("a billion and 1 holds not of a billion", x.holds(0, 1000000000, 0, 0), 0);
        x.not(0, 0);
        due("all others", x.least(0, X), 0);
    }

    /** "OVER (what would be told is above 1000000000)" */
    private static void overForEachNumber() {
        String billion = TWICE + "; is 0 0 953125" + more(1000000) + doubled(9);
        String andOne = billion + more(1);
        for (int u = 0; u < 3; u++) {
            String move = u == 0 ? "" : "; swap 0 0 0 " + u;
            run("a billion", 1000000000, billion + move + "; least 0 " + u);
            run("a billion and 1", OVER, andOne + move + "; least 0 " + u);
            run("a billion and 1, another number", 0, andOne + move + "; least 0 " + (u + 1) % 3);
            run("any but a billion and 1", 0, andOne + move + "; not 0 0; least 0 " + u);
        }
        // As 32 digits these are 0, below 0, and above 0 again.
        run("2 to the 31", OVER, powerOfTwo(31) + "; least 0 0");
        run("2 to the 32", OVER, powerOfTwo(32) + "; least 0 0");
        run("2 to the 32 and 5", OVER, powerOfTwo(32) + more(5) + "; least 0 0");
        run("2 to the 57", OVER, powerOfTwo(57) + "; least 0 0");
        run("2 to the 32 is not 0", 0, powerOfTwo(32) + "; holds 0 0 0 0");
        run("2 to the 30 is not 0", 0, powerOfTwo(30) + "; holds 0 0 0 0");
        run("2 to the 30 is above all that can be asked", 0, powerOfTwo(30) + "; below 0 12");
    }

    private static void sixtyKindsOfANumber() {
        DigitClaims x = new DigitClaims();
        makeTwice(x);
        x.is(0, X, 1);
        for (int digits = 2; digits <= 57; digits++) {
            due("digits " + digits, twice(x), digits + 2);
        }
        due("57 digits", x.least(0, X), OVER);
        due("58 digits: 60 kinds", x.both(1, 0, 5), 60);
        due("58 digits: some", x.some(1, 1, X), 60);
        due("58 digits: least", x.least(1, Z), OVER);
        due("58 digits: not", x.not(2, 1), 60);
        due("58 digits: swap", x.swap(0, 1, X, Z), 60);
        due("58 digits: all", x.all(3, 2, Y), 60);
        due("59 digits: 61 kinds", x.both(1, 0, 5), SPENT);
        due("refused: what was", x.kinds(1), 60);
        due("refused: and as it was", x.same(1, 0), 0);
        x.swap(3, 1, X, Z);
        due("refused: and as it was, too", x.same(3, 0), 1);
        due("59 digits in its own place", x.both(0, 0, 5), SPENT);
        due("refused: in its own place", x.same(3, 0), 1);
    }

    /** Claim k: NUMBER 1 is NUMBER 0 times m. Needs claims 4 and 5. Answers the first refusal, or the KINDS. */
    private static int multiple(DigitClaims x, int k, int m) {
        int answer = x.equal(k, X, Y);
        for (int digit = 31 - Integer.numberOfLeadingZeros(m) - 1; digit >= 0 && answer > 0; digit--) {
            answer = next(x, k, true);
            if (answer > 0 && (m >> digit & 1) == 1) {
                answer = next(x, k, false);
            }
        }
        return answer;
    }

    private static int next(DigitClaims x, int k, boolean twice) {
        if (twice) {
            x.equal(4, X, Z);
            x.sum(5, X, Z);
            x.both(4, 4, 5);
            x.some(4, 4, X);
            x.swap(5, 4, X, Z);
            x.swap(4, 5, X, Y);
            x.swap(5, 4, X, Z);
        } else {
            x.sum(5, X, Y);
        }
        int answer = x.both(4, k, 5);
        if (answer < 0) {
            return answer;
        }
        answer = x.some(4, 4, Y);
        return answer < 0 ? answer : x.swap(k, 4, Y, Z);
    }

    private static void sixtyKindsOfMultiples() {
        for (int m = 2; m <= 30; m++) {
            DigitClaims x = new DigitClaims();
            due("kinds of times " + m, multiple(x, 0, m), m + 1);
            due("times " + m, x.holds(0, 12345, 12345 * m, 7), 1);
            due("times " + m + ", one off", x.holds(0, 12345, 12345 * m + 1, 7), 0);
        }
        DigitClaims x = new DigitClaims();
        due("times 58", multiple(x, 0, 58), 59);
        x = new DigitClaims();
        due("times 31: twice 30 and 1 kinds on the way", multiple(x, 0, 31), SPENT);
    }

    /** "A CLAIM that would have more than 60 KINDS does not come: SPENT" */
    private static void kindsOfJoined() {
        String nots = "; not 0 0; not 4 5; not 3 0";
        run("both of 60 kinds", 60, numberOf(57) + "; both 1 0 5");
        run("both of 61 kinds", SPENT, numberOf(58) + "; both 1 0 5");
        run("both of 61 kinds, in place of i", SPENT, numberOf(58) + "; both 0 0 5");
        run("both of 61 kinds, in place of j", SPENT, numberOf(58) + "; both 5 0 5");
        run("either of 60 kinds", 60, numberOf(57) + nots + "; either 1 0 4");
        run("either of 61 kinds", SPENT, numberOf(58) + nots + "; either 1 0 4");
        run("either of 61 kinds, in place of i", SPENT, numberOf(58) + nots + "; either 0 0 4");
        run("either of 61 kinds, in place of j", SPENT, numberOf(58) + nots + "; either 4 0 4");
        run("not of 60 kinds", 60, numberOf(58) + "; not 1 0");
        run("swap of 60 kinds", 60, numberOf(58) + "; swap 1 0 0 1");
        run("some of 60 kinds that stay", 60, numberOf(58) + "; some 1 0 1");
        run("all of 60 kinds that stay", 60, numberOf(58) + "; all 1 0 2");
        run("some of 60 kinds: none is left", 1, numberOf(58) + "; some 1 0 0");
        run("six claims of 60 kinds", 360, numberOf(58) + "; not 1 0; not 2 0; not 3 0; not 4 0; not 5 0; many 1");
        run("drop of 60 kinds", 60, numberOf(58) + "; drop 0");
        run("kinds: 60", 60, numberOf(58) + "; kinds 0");
        run("same of 60 kinds", 1, numberOf(58) + "; not 1 0; not 1 1; same 0 1");
        run("not the same of 60 kinds", 0, numberOf(58) + "; not 1 0; same 0 1");
    }

    private static void kindsOfSaid() {
        run("some of 60 kinds", 60, new int[][] {{0, 0, 0, 2, 0}, {0, 2, 3, 0, 1}, {0, 3, 3, 2, 1}, {5, 2, 1, 2},
            {5, 3, 0, 1}, {10, 0, 3, 2}, {8, 3, 2, 0}, {9, 0, 3, 0}, {13, 5, 0, 0}});
        run("some of 61 kinds", SPENT, new int[][] {{0, 0, 0, 2, 1}, {0, 2, 3, 4, 1}, {5, 3, 2, 1}, {0, 3, 1, 1, 1},
            {0, 4, 2, 0, 2}, {8, 1, 0, 2}, {9, 0, 3, 1}, {13, 5, 0, 2}});
        run("all of 60 kinds", 60, new int[][] {{0, 0, 0, 3, 1}, {0, 2, 4, 1, 1}, {0, 3, 1, 2, 2}, {5, 4, 0, 2},
            {5, 1, 2, 1}, {10, 2, 1, 4}, {7, 3, 0, 1}, {11, 4, 2}, {10, 4, 3, 4}, {14, 5, 4, 0}});
        run("all of 61 kinds", SPENT, new int[][] {{0, 0, 0, 2, 1}, {0, 2, 3, 1, 2}, {0, 3, 4, 2, 2}, {0, 4, 2, 2, 2},
            {5, 2, 2, 1}, {8, 1, 1, 2}, {11, 0, 2}, {10, 3, 1, 0}, {14, 5, 3, 1}});
    }

    /** Of these the claim that would come has 1 KIND: only the sets are too many, or just not. */
    private static void setsOfSaid() {
        run("all of 300 sets", 1, new int[][] {{0, 0, 0, 2, 2}, {0, 2, 1, 2, 1}, {0, 1, 4, 1, 0}, {0, 4, 2, 0, 1},
            {5, 1, 0, 1}, {7, 3, 2, 2}, {5, 4, 1, 2}, {7, 2, 0, 0}, {11, 0, 2}, {9, 3, 4, 3}, {10, 3, 3, 1},
            {9, 2, 3, 0}, {14, 5, 2, 0}});
        run("some of 300 sets", 1, new int[][] {{0, 0, 0, 2, 2}, {0, 2, 1, 2, 1}, {0, 1, 4, 1, 0}, {0, 4, 2, 0, 1},
            {5, 1, 0, 1}, {7, 3, 2, 2}, {5, 4, 1, 2}, {7, 2, 0, 0}, {11, 0, 2}, {9, 3, 4, 3}, {10, 3, 3, 1},
            {9, 2, 3, 0}, {11, 2, 2}, {13, 5, 2, 0}});
        run("all of 301 sets", SPENT, new int[][] {{0, 0, 0, 2, 2}, {0, 2, 1, 3, 2}, {0, 3, 4, 1, 1}, {0, 4, 3, 0, 2},
            {5, 1, 2, 1}, {0, 1, 2, 4, 0}, {7, 4, 0, 0}, {5, 3, 1, 0}, {10, 1, 3, 1}, {9, 3, 1, 4}, {14, 5, 3, 0}});
        run("some of 301 sets", SPENT, new int[][] {{0, 0, 0, 2, 0}, {0, 2, 4, 3, 1}, {0, 3, 3, 4, 1}, {0, 4, 1, 1, 2},
            {0, 1, 2, 0, 2}, {5, 4, 2, 0}, {7, 2, 2, 1}, {10, 0, 4, 2}, {5, 3, 0, 1}, {10, 2, 3, 0}, {13, 5, 2, 2}});
    }

    private static final String SETS_300 = "place 0 0 2 2; place 2 1 2 1; place 1 4 1 0; place 4 2 0 1; sum 1 0 1; "
        + "tells 3 2 2; sum 4 1 2; tells 2 0 0; not 0 2; both 3 4 3; either 3 3 1; both 2 3 0; not 2 2";
    private static final String SETS_301 = "place 0 0 2 0; place 2 4 3 1; place 3 3 4 1; place 4 1 1 2; place 1 2 0 2; "
        + "sum 4 2 0; tells 2 2 1; either 0 4 2; sum 3 0 1; either 2 3 0";

    /** "if there are more than 300 unlike such sets: SPENT. For ALL likewise by NOT the other CLAIM." */
    private static void setsInOtherPlaces() {
        run("some of 300 sets, in its own place", 1, SETS_300 + "; some 2 2 0");
        run("some of 300 sets, of NUMBER 2", 1, SETS_300 + "; swap 2 2 0 2; some 5 2 2");
        run("some of 300 sets, of NUMBER 1", 1, SETS_300 + "; swap 2 2 0 1; some 5 2 1");
        run("all of 300 sets, of NOT", 1, SETS_300 + "; not 2 2; all 5 2 0");
        run("some of 301 sets, in its own place", SPENT, SETS_301 + "; some 2 2 2");
        run("some of 301 sets, of NUMBER 0", SPENT, SETS_301 + "; swap 2 2 0 2; some 5 2 0");
        run("some of 301 sets, of NUMBER 1", SPENT, SETS_301 + "; swap 2 2 1 2; some 5 2 1");
        run("some of 301 sets, of NOT", SPENT, SETS_301 + "; not 2 2; some 5 2 2");
        run("all of 301 sets, of NOT", SPENT, SETS_301 + "; not 2 2; all 2 2 2");
        run("all of 301 sets", SPENT, SETS_301 + "; all 2 2 2");
    }

    /** "SPENT: as some() by one of the other two NUMBERS (the lesser one first) .. would be" */
    private static void leastAtTheFirstStep() {
        run("least, 300 sets at first", 0, SETS_300 + "; least 2 1");
        run("least, 300 sets at first", 0, SETS_300 + "; least 2 2");
        run("least, 301 sets at first", SPENT, SETS_301 + "; swap 2 2 0 2; least 2 1");
        run("least, 301 sets at first", SPENT, SETS_301 + "; swap 2 2 0 2; least 2 2");
        run("least, 60 kinds at first", 0, "place 0 0 2 2; place 1 3 3 0; place 2 4 1 1; place 3 4 3 1; alike 1 2 1; "
            + "sum 3 0 2; both 3 1 3; least 3 0");
        run("least, 61 kinds at first", SPENT, "place 0 0 2 2; place 1 3 3 1; place 2 1 0 1; place 3 4 0 0; "
            + "alike 3 1 0; sum 4 1 2; both 4 3 4; least 4 0");
    }

    /** ".. then of that by the other one, would be" */
    private static void leastAtTheSecondStep() {
        run("least, 300 sets then", 0, "place 0 0 1 0; place 1 2 4 1; place 2 0 3 0; place 3 3 1 2; place 4 1 1 0; "
            + "sum 2 2 0; alike 1 2 0; both 3 2 1; least 3 1");
        run("least, 301 sets then", SPENT, "place 0 0 2 1; place 1 4 4 0; place 2 0 1 2; place 3 2 4 0; "
            + "place 4 2 0 2; sum 4 0 2; alike 2 0 2; both 4 4 2; least 4 1");
        run("least, 60 kinds then", 0, "place 0 0 1 2; place 1 2 2 1; is 3 1 35; alike 0 1 0; both 0 3 0; sum 3 2 1; "
            + "both 2 0 3; least 2 2");
        run("least, 61 kinds then", SPENT, "place 0 0 1 2; place 1 2 2 2; place 2 3 3 1; place 3 0 3 2; tells 0 2 1; "
            + "sum 4 1 2; is 2 1 41; both 1 2 4; both 1 0 1; least 1 0");
    }

    private static void leastIsSpentInOrder() {
        run("least, the first is spent, the other order not", SPENT, new int[][] {{0, 0, 0, 4, 1}, {0, 2, 2, 0, 2},
            {0, 3, 0, 1, 1}, {0, 4, 2, 3, 2}, {5, 2, 1, 2}, {8, 0, 0, 1}, {9, 2, 2, 0}, {19, 2, 0}});
        run("least, the second is spent, the other order not", SPENT, new int[][] {{0, 1, 2, 0, 2}, {0, 2, 1, 4, 2},
            {0, 3, 0, 2, 2}, {0, 0, 0, 3, 0}, {5, 2, 0, 1}, {8, 0, 1, 2}, {9, 4, 2, 0}, {19, 4, 0}});
        run("least, spent only if the greater were first", 0, new int[][] {{0, 0, 0, 2, 1}, {0, 2, 3, 4, 1},
            {5, 3, 2, 1}, {0, 3, 1, 1, 1}, {0, 4, 2, 0, 2}, {8, 1, 0, 2}, {9, 0, 3, 1}, {19, 0, 0}});
        run("least, spent at the second if the greater were first", 0, new int[][] {{0, 0, 0, 1, 1}, {0, 1, 0, 2, 0},
            {0, 2, 4, 3, 0}, {0, 4, 2, 0, 0}, {8, 4, 0, 1}, {5, 2, 1, 2}, {9, 4, 4, 2}, {19, 4, 2}});
        run("least, spent at the first in both orders", SPENT, new int[][] {{0, 1, 4, 4, 1}, {0, 2, 1, 3, 1},
            {0, 4, 2, 1, 1}, {0, 0, 0, 2, 1}, {8, 3, 0, 2}, {5, 1, 2, 1}, {9, 2, 1, 3}, {19, 2, 1}});
        run("least, spent at the second in both orders", SPENT, new int[][] {{0, 0, 0, 1, 0}, {0, 4, 4, 3, 2},
            {0, 1, 2, 4, 2}, {5, 3, 0, 2}, {8, 1, 0, 2}, {9, 2, 1, 3}, {19, 2, 1}});
    }

    /** 59 times 59 KINDS to be joined: nearly as many states as ever come. */
    private static void theDearest() {
        DigitClaims x = new DigitClaims();
        multiple(x, 0, 58);
        x.swap(1, 0, X, Z);
        for (int time = 0; time < 50; time++) {
            due("both of 59 and 59: x and z are one", x.both(3, 0, 1), 59);
            due("either of 59 and 59", x.either(2, 0, 1), SPENT);
        }
        x.swap(1, 1, Y, Z);
        for (int time = 0; time < 50; time++) {
            due("both of 59 and 59: 58 times 58", x.both(2, 0, 1), SPENT);
            due("either of 59 and 59: 58 times 58", x.either(2, 0, 1), SPENT);
        }
        due("nothing came", x.kinds(2), -3);
        x.not(2, 0);
        due("both of a claim and its opposite", x.both(3, 0, 2), 1);
        due("either of them", x.either(3, 0, 2), 1);
        due("some", x.some(3, 0, X), 30);
        due("a multiple of 58", x.holds(3, 5, 58 * 1234567, 6), 1);
        due("no multiple of 58", x.holds(3, 5, 58 * 1234567 + 29, 6), 0);
    }

    /**
     * Two claims of 60 KINDS that nothing binds to one another: over 3000 states, all but one of which are of one KIND.
     * Claim 1: z is a multiple of 29, x has an odd count of digits 1, y is odd; claim 2: x is a multiple of 29, y has an
     * odd count of digits 1 and is even; and each HOLDS of 0, 0, 0.
     */
    private static void manyStatesFewKinds() {
        DigitClaims x = new DigitClaims();
        multiple(x, 0, 29);
        due("multiples of 29", x.some(0, 0, X), 29);
        for (int[] call : Calls.run("place 0 0 1 0; place 1 1 0 1; tells 1 0 1; tells 2 1 1; place 1 0 1 1; tells 3 1 1; "
            + "swap 4 0 1 2; both 1 1 4; both 1 1 3; not 3 3; swap 4 0 1 0; both 2 2 4; both 2 2 3; "
            + "is 3 0 0; is 4 1 0; both 3 3 4; is 4 2 0; both 3 3 4")) {
            Calls.of(x, call);
        }
        due("claim 1", x.either(1, 1, 3), 60);
        due("claim 2", x.either(2, 2, 3), 60);
        due("both", x.both(4, 1, 2), 2);
        due("both: 0, 0, 0 alone", x.same(4, 3), 1);
        due("either: too many", x.either(4, 1, 2), SPENT);
        x.not(1, 1);
        x.not(2, 2);
        x.not(3, 3);
        due("either of not", x.either(5, 1, 2), 2);
        due("either of not: all but 0, 0, 0", x.same(5, 3), 1);
        due("both of not: too many", x.both(5, 1, 2), SPENT);
        due("refused: what was", x.same(5, 3), 1);
    }

    /** "what later calls answer is free": but no call may ever throw or fail to end. */
    private static void farMoreCalls() {
        DigitClaims x = new DigitClaims();
        for (int[] call : Calls.run(numberOf(58))) {
            Calls.of(x, call);
        }
        int told = 0;
        for (int call = 0; call < 1500; call++) {
            told += x.least(0, call % 3) == UNTOLD ? 1 : 0;
        }
        due("1500 calls more", told, 0);
    }
}
