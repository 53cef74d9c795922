/** Long mixed runs of calls, each answer compared with the oracle's. */
public final class OracleTest {
    private static final int RUNS = 240;
    private static final int CALLS = 256;
    /** The claims are few beside what is asked of them, if each call is as likely: so the making ones weigh more. */
    private static final int[] WEIGHTS = {8, 2, 2, 3, 4, 6, 4, 5, 6, 12, 12, 5, 6, 12, 8, 4, 2, 2, 2, 8, 4, 2, 2};

    private long seed;

    private OracleTest(long seed) {
        this.seed = seed;
    }

    private int under(int bound) {
        seed = seed * 6364136223846793005L + 1442695040888963407L;
        return (int) ((seed >>> 33) % bound);
    }

    private int near(int bound) {
        return under(40) == 0 ? (under(2) == 0 ? -1 : bound) : under(bound);
    }

    private int numberUpTo(int most) {
        switch (under(12)) {
            case 0: return most;
            case 1: return most + under(2);
            case 2: return -under(2);
            case 3: case 4: case 5: return under(most);
            default: return under(64);
        }
    }

    private int whichCall() {
        int total = 0;
        for (int weight : WEIGHTS) {
            total += weight;
        }
        int at = under(total);
        int which = 0;
        while (at >= WEIGHTS[which]) {
            at -= WEIGHTS[which];
            which++;
        }
        return which;
    }

    private int[] nextCall() {
        int which = whichCall();
        int k = near(6);
        switch (which) {
            case 0: int p = near(5); return new int[] {0, p, p == 0 && under(10) > 0 ? 0 : near(5), near(5), near(3)};
            case 1: return new int[] {1, near(5), near(3)};
            case 2: return new int[] {2, numberUpTo(1000000000)};
            case 6: return new int[] {6, k, near(3), numberUpTo(1000000)};
            case 9: case 10: return new int[] {which, k, near(6), near(6)};
            case 11: case 20: return new int[] {which, k, near(6)};
            case 12: return new int[] {12, k, near(6), near(3), near(3)};
            case 13: case 14: return new int[] {which, k, near(6), near(3)};
            case 15: return new int[] {15, k, numberUpTo(1000000000), numberUpTo(1000000000), numberUpTo(1000000000)};
            case 16: case 17: case 21: return new int[] {which, k};
            case 18: return new int[] {18, k, near(13)};
            case 19: return new int[] {19, k, near(3)};
            case 22: return new int[] {22, near(2)};
            default: return new int[] {which, k, near(3), near(3)};
        }
    }

    public static void main(String[] args) {
        int wrong = 0;
        for (int run = 1; run <= RUNS; run++) {
            OracleTest source = new OracleTest(run * 7919L);
            DigitClaims claims = new DigitClaims();
            Oracle oracle = new Oracle();
            StringBuilder story = new StringBuilder();
            for (int call = 0; call < CALLS; call++) {
                int[] c = source.nextCall();
                long want = Calls.of(oracle, c);
                long got = Calls.of(claims, c);
                story.append("  ").append(Calls.text(c)).append(" = ").append(got).append('\n');
                if (got != want) {
                    System.out.println("run " + run + ", due is " + want + " at the end of:\n" + story);
                    wrong++;
                    break;
                }
            }
        }
        System.out.println(wrong == 0 ? "all answers are as the oracle's" : wrong + " runs are not as the oracle's");
        if (wrong != 0) {
            System.exit(1);
        }
    }
}
