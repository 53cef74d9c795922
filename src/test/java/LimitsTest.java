/** The limits: 60 KINDS, 300 unlike sets, 1000000000 told; on both sides of each. */
public final class LimitsTest {
    private static final int X = 0, Y = 1, Z = 2;
    private static final int OVER = -5, SPENT = -6;
    private static final Due DUE = new Due();

    private static void due(String what, long got, long want) {
        DUE.due(what, got, want);
    }

    public static void main(String[] args) {
        toldUpToABillion();
        sixtyKindsOfANumber();
        sixtyKindsOfMultiples();
        kindsOfSaid();
        setsOfSaid();
        leastIsSpentInOrder();
        theDearest();
        DUE.end();
    }

    /** Claim 5: NUMBER 2 is NUMBER 0 twice. */
    private static void makeTwice(DigitClaims x) {
        x.equal(5, X, Y);
        x.sum(4, X, Y);
        x.both(5, 5, 4);
        x.some(5, 5, Y);
    }

    /** From claim 0, x is a number, to claim 0, x is twice that; answers the KINDS, or SPENT at the joining. */
    private static int twice(DigitClaims x) {
        int joined = x.both(1, 0, 5);
        if (joined == SPENT) {
            return SPENT;
        }
        x.some(1, 1, X);
        return x.swap(0, 1, X, Z);
    }

    /** From claim 0, x is a number, to claim 0, x is one more. */
    private static void oneMore(DigitClaims x) {
        x.is(1, Y, 1);
        x.sum(2, X, Y);
        x.both(1, 1, 2);
        x.both(1, 1, 0);
        x.some(1, 1, X);
        x.some(1, 1, Y);
        x.swap(0, 1, X, Z);
    }

    private static void toldUpToABillion() {
        DigitClaims x = new DigitClaims();
        makeTwice(x);
        x.is(0, X, 976562);
        twice(x);
        oneMore(x);
        due("976562 twice and 1", x.least(0, X), 1953125);
        for (int time = 0; time < 9; time++) {
            twice(x);
        }
        due("a billion", x.least(0, X), 1000000000);
        due("a billion holds", x.holds(0, 1000000000, 0, 0), 1);
        due("a billion, its kinds", x.kinds(0), 32);
        due("another number", x.least(0, Y), 0);
        oneMore(x);
        due("a billion and 1", x.least(0, X), OVER);
        due("it is there", x.kinds(0), 32);
        due("a billion and 1 holds not of a billion", x.holds(0, 1000000000, 0, 0), 0);
        x.not(0, 0);
        due("all others", x.least(0, X), 0);
    }

    private static void sixtyKindsOfANumber() {
        DigitClaims x = new DigitClaims();
        makeTwice(x);
        x.is(0, X, 1);
        for (int digits = 2; digits <= 57; digits++) {
            due("digits " + digits, twice(x), digits + 2);
        }
        due("57 digits", x.least(0, X), OVER);
        due("58 digits: 60 kinds", x.both(1, 0, 5), 60);
        due("58 digits: some", x.some(1, 1, X), 60);
        due("58 digits: least", x.least(1, Z), OVER);
        due("58 digits: not", x.not(2, 1), 60);
        due("58 digits: swap", x.swap(0, 1, X, Z), 60);
        due("58 digits: all", x.all(3, 2, Y), 60);
        due("59 digits: 61 kinds", x.both(1, 0, 5), SPENT);
        due("refused: what was", x.kinds(1), 60);
        due("refused: and as it was", x.same(1, 0), 0);
        x.swap(3, 1, X, Z);
        due("refused: and as it was, too", x.same(3, 0), 1);
        due("59 digits in its own place", x.both(0, 0, 5), SPENT);
        due("refused: in its own place", x.same(3, 0), 1);
    }

    /** Claim k: NUMBER 1 is NUMBER 0 times m. Needs claims 4 and 5. Answers the first refusal, or the KINDS. */
    private static int multiple(DigitClaims x, int k, int m) {
        int answer = x.equal(k, X, Y);
        for (int digit = 31 - Integer.numberOfLeadingZeros(m) - 1; digit >= 0 && answer > 0; digit--) {
            answer = next(x, k, true);
            if (answer > 0 && (m >> digit & 1) == 1) {
                answer = next(x, k, false);
            }
        }
        return answer;
    }

    private static int next(DigitClaims x, int k, boolean twice) {
        if (twice) {
            x.equal(4, X, Z);
            x.sum(5, X, Z);
            x.both(4, 4, 5);
            x.some(4, 4, X);
            x.swap(5, 4, X, Z);
            x.swap(4, 5, X, Y);
            x.swap(5, 4, X, Z);
        } else {
            x.sum(5, X, Y);
        }
        int answer = x.both(4, k, 5);
        if (answer < 0) {
            return answer;
        }
        answer = x.some(4, 4, Y);
        return answer < 0 ? answer : x.swap(k, 4, Y, Z);
    }

    private static void sixtyKindsOfMultiples() {
        for (int m = 2; m <= 30; m++) {
            DigitClaims x = new DigitClaims();
            due("kinds of times " + m, multiple(x, 0, m), m + 1);
            due("times " + m, x.holds(0, 12345, 12345 * m, 7), 1);
            due("times " + m + ", one off", x.holds(0, 12345, 12345 * m + 1, 7), 0);
        }
        DigitClaims x = new DigitClaims();
        due("times 58", multiple(x, 0, 58), 59);
        x = new DigitClaims();
        due("times 31: twice 30 and 1 kinds on the way", multiple(x, 0, 31), SPENT);
    }

    /** Makes the calls, each compared with the oracle; the last one's answer is told by the run, too. */
    private static void run(String what, long want, int[]... calls) {
        DigitClaims x = new DigitClaims();
        Oracle oracle = new Oracle();
        long answer = 0;
        for (int[] c : calls) {
            answer = Calls.of(x, c);
            due(what + ": " + Calls.text(c), answer, Calls.of(oracle, c));
        }
        due(what, answer, want);
        if (want == SPENT) {
            int[] last = calls[calls.length - 1];
            due(what + ", refused: nothing came", x.kinds(5), -3);
            due(what + ", once more", Calls.of(x, last), SPENT);
        }
    }

    private static void kindsOfSaid() {
        run("some of 60 kinds", 60, new int[][] {{0, 0, 0, 2, 0}, {0, 2, 3, 0, 1}, {0, 3, 3, 2, 1}, {5, 2, 1, 2},
            {5, 3, 0, 1}, {10, 0, 3, 2}, {8, 3, 2, 0}, {9, 0, 3, 0}, {13, 5, 0, 0}});
        run("some of 61 kinds", SPENT, new int[][] {{0, 0, 0, 2, 1}, {0, 2, 3, 4, 1}, {5, 3, 2, 1}, {0, 3, 1, 1, 1},
            {0, 4, 2, 0, 2}, {8, 1, 0, 2}, {9, 0, 3, 1}, {13, 5, 0, 2}});
        run("all of 60 kinds", 60, new int[][] {{0, 0, 0, 3, 1}, {0, 2, 4, 1, 1}, {0, 3, 1, 2, 2}, {5, 4, 0, 2},
            {5, 1, 2, 1}, {10, 2, 1, 4}, {7, 3, 0, 1}, {11, 4, 2}, {10, 4, 3, 4}, {14, 5, 4, 0}});
        run("all of 61 kinds", SPENT, new int[][] {{0, 0, 0, 2, 1}, {0, 2, 3, 1, 2}, {0, 3, 4, 2, 2}, {0, 4, 2, 2, 2},
            {5, 2, 2, 1}, {8, 1, 1, 2}, {11, 0, 2}, {10, 3, 1, 0}, {14, 5, 3, 1}});
    }

    /** Of these the claim that would come has 1 KIND: only the sets are too many, or just not. */
    private static void setsOfSaid() {
        run("all of 300 sets", 1, new int[][] {{0, 0, 0, 2, 2}, {0, 2, 1, 2, 1}, {0, 1, 4, 1, 0}, {0, 4, 2, 0, 1},
            {5, 1, 0, 1}, {7, 3, 2, 2}, {5, 4, 1, 2}, {7, 2, 0, 0}, {11, 0, 2}, {9, 3, 4, 3}, {10, 3, 3, 1},
            {9, 2, 3, 0}, {14, 5, 2, 0}});
        run("some of 300 sets", 1, new int[][] {{0, 0, 0, 2, 2}, {0, 2, 1, 2, 1}, {0, 1, 4, 1, 0}, {0, 4, 2, 0, 1},
            {5, 1, 0, 1}, {7, 3, 2, 2}, {5, 4, 1, 2}, {7, 2, 0, 0}, {11, 0, 2}, {9, 3, 4, 3}, {10, 3, 3, 1},
            {9, 2, 3, 0}, {11, 2, 2}, {13, 5, 2, 0}});
        run("all of 301 sets", SPENT, new int[][] {{0, 0, 0, 2, 2}, {0, 2, 1, 3, 2}, {0, 3, 4, 1, 1}, {0, 4, 3, 0, 2},
            {5, 1, 2, 1}, {0, 1, 2, 4, 0}, {7, 4, 0, 0}, {5, 3, 1, 0}, {10, 1, 3, 1}, {9, 3, 1, 4}, {14, 5, 3, 0}});
        run("some of 301 sets", SPENT, new int[][] {{0, 0, 0, 2, 0}, {0, 2, 4, 3, 1}, {0, 3, 3, 4, 1}, {0, 4, 1, 1, 2},
            {0, 1, 2, 0, 2}, {5, 4, 2, 0}, {7, 2, 2, 1}, {10, 0, 4, 2}, {5, 3, 0, 1}, {10, 2, 3, 0}, {13, 5, 2, 2}});
    }

    private static void leastIsSpentInOrder() {
        run("least, the first is spent, the other order not", SPENT, new int[][] {{0, 0, 0, 4, 1}, {0, 2, 2, 0, 2},
            {0, 3, 0, 1, 1}, {0, 4, 2, 3, 2}, {5, 2, 1, 2}, {8, 0, 0, 1}, {9, 2, 2, 0}, {19, 2, 0}});
        run("least, the second is spent, the other order not", SPENT, new int[][] {{0, 1, 2, 0, 2}, {0, 2, 1, 4, 2},
            {0, 3, 0, 2, 2}, {0, 0, 0, 3, 0}, {5, 2, 0, 1}, {8, 0, 1, 2}, {9, 4, 2, 0}, {19, 4, 0}});
        run("least, spent only if the greater were first", 0, new int[][] {{0, 0, 0, 2, 1}, {0, 2, 3, 4, 1},
            {5, 3, 2, 1}, {0, 3, 1, 1, 1}, {0, 4, 2, 0, 2}, {8, 1, 0, 2}, {9, 0, 3, 1}, {19, 0, 0}});
        run("least, spent at the second if the greater were first", 0, new int[][] {{0, 0, 0, 1, 1}, {0, 1, 0, 2, 0},
            {0, 2, 4, 3, 0}, {0, 4, 2, 0, 0}, {8, 4, 0, 1}, {5, 2, 1, 2}, {9, 4, 4, 2}, {19, 4, 2}});
        run("least, spent at the first in both orders", SPENT, new int[][] {{0, 1, 4, 4, 1}, {0, 2, 1, 3, 1},
            {0, 4, 2, 1, 1}, {0, 0, 0, 2, 1}, {8, 3, 0, 2}, {5, 1, 2, 1}, {9, 2, 1, 3}, {19, 2, 1}});
        run("least, spent at the second in both orders", SPENT, new int[][] {{0, 0, 0, 1, 0}, {0, 4, 4, 3, 2},
            {0, 1, 2, 4, 2}, {5, 3, 0, 2}, {8, 1, 0, 2}, {9, 2, 1, 3}, {19, 2, 1}});
    }

    /** 59 times 59 KINDS to be joined: nearly as many states as ever come. */
    private static void theDearest() {
        DigitClaims x = new DigitClaims();
        multiple(x, 0, 58);
        x.swap(1, 0, X, Z);
        for (int time = 0; time < 50; time++) {
            due("both of 59 and 59: x and z are one", x.both(3, 0, 1), 59);
            due("either of 59 and 59", x.either(2, 0, 1), SPENT);
        }
        x.swap(1, 1, Y, Z);
        for (int time = 0; time < 50; time++) {
            due("both of 59 and 59: 58 times 58", x.both(2, 0, 1), SPENT);
            due("either of 59 and 59: 58 times 58", x.either(2, 0, 1), SPENT);
        }
        due("nothing came", x.kinds(2), -3);
        x.not(2, 0);
        due("both of a claim and its opposite", x.both(3, 0, 2), 1);
        due("either of them", x.either(3, 0, 2), 1);
        due("some", x.some(3, 0, X), 30);
        due("a multiple of 58", x.holds(3, 5, 58 * 1234567, 6), 1);
        due("no multiple of 58", x.holds(3, 5, 58 * 1234567 + 29, 6), 0);
    }
}
