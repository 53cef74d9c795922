/** Any arguments in any state: no call may throw, and refused calls change nothing. */
public final class WildTest {
    private static final int[] VALUES = {Integer.MIN_VALUE, Integer.MIN_VALUE + 1, -1000000000, -65536, -7, -2, -1, 0,
        1, 2, 3, 4, 5, 6, 7, 12, 13, 60, 61, 1000000, 1000001, 1000000000, 1000000001, 1 << 30, Integer.MAX_VALUE - 1,
        Integer.MAX_VALUE};

    private static long seed = 99;

    private static int under(int bound) {
        seed = seed * 6364136223846793005L + 1442695040888963407L;
        return (int) ((seed >>> 33) % bound);
    }

    private static int[] wild() {
        int[] c = new int[5];
        c[0] = under(Calls.NAMES.length);
        for (int at = 1; at < c.length; at++) {
            c[at] = under(3) == 0 ? VALUES[under(VALUES.length)] : under(6);
        }
        return c;
    }

    private static String told(DigitClaims x) {
        StringBuilder all = new StringBuilder();
        for (int p = 0; p < 5; p++) {
            for (int what = 0; what < 3; what++) {
                all.append(x.ofPlace(p, what)).append(' ');
            }
        }
        for (int k = 0; k < 6; k++) {
            all.append(x.kinds(k)).append(' ').append(x.depends(k)).append(' ').append(x.below(k, 12)).append(' ');
            all.append(x.below(k, 5)).append(' ').append(x.below(k, 1)).append(' ');
        }
        return all.append(x.many(0)).append(' ').append(x.many(1)).toString();
    }

    public static void main(String[] args) {
        int wrong = 0;
        for (int run = 0; run < 60 && wrong == 0; run++) {
            DigitClaims x = new DigitClaims();
            // Far more calls than are promised: what they answer is free then, but they still may not throw.
            for (int call = 0; call < 600 && wrong == 0; call++) {
                int[] c = wild();
                String before = told(x);
                long answer = Calls.of(x, c);
                boolean refused = answer < 0;
                boolean asks = c[0] == 1 || c[0] == 2 || c[0] >= 15 && c[0] != 21;
                if ((refused || asks) && !told(x).equals(before)) {
                    wrong++;
                    System.out.println(Calls.text(c) + " answered " + answer + " and changed something");
                }
            }
        }
        System.out.println(wrong == 0 ? "no call threw, none that was refused changed a thing" : "wrong");
        if (wrong != 0) {
            System.exit(1);
        }
    }
}
