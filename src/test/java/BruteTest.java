import java.util.Arrays;
import java.util.HashSet;
import java.util.Set;

/**
 * Claims against what the document's words say of plain numbers: each is also a formula that is worked out number by
 * number, without any machine. What only ever shows in greater numbers is compared one way: no more may show here.
 */
public final class BruteTest {
    interface Formula {
        boolean of(int[] three);
    }

    /** A claim in a slot and the formula that it stands for; null, where it is spent. */
    record Made(int kinds, Formula formula) { }

    private static final Due DUE = new Due();
    private static final int FORMULAS = 600;

    private long seed;
    private final DigitClaims x = new DigitClaims();
    private final int[] row = new int[1 << 12];

    private BruteTest(long seed) {
        this.seed = seed;
    }

    private int under(int bound) {
        seed = seed * 6364136223846793005L + 1442695040888963407L;
        return (int) ((seed >>> 33) % bound);
    }

    public static void main(String[] args) {
        for (int at = 1; at <= FORMULAS; at++) {
            new BruteTest(at * 104729L).compare("formula " + at);
        }
        kindsInFull();
        setsInFull();
        DUE.end();
    }

    private void writeRow() {
        int[][] places = new int[5][];
        for (int p = 0; p < 5; p++) {
            places[p] = new int[] {p == 0 ? 0 : under(5), under(5), under(3)};
            x.place(p, places[p][0], places[p][1], places[p][2]);
        }
        int[] comesTo = new int[row.length];
        row[0] = places[0][2];
        for (int number = 1; number < row.length; number++) {
            comesTo[number] = places[comesTo[number / 2]][number % 2];
            row[number] = places[comesTo[number]][2];
        }
    }

    private Made plain(int k) {
        int u = under(3);
        int v = (u + 1 + under(2)) % 3;
        int w = 3 - u - v;
        int c = under(10);
        int told = under(3);
        switch (under(6)) {
            case 0: return new Made(x.equal(k, u, v), t -> t[u] == t[v]);
            case 1: return new Made(x.less(k, u, v), t -> t[u] < t[v]);
            case 2: return new Made(x.sum(k, u, v), t -> t[u] + t[v] == t[w]);
            case 3: return new Made(x.is(k, u, c), t -> t[u] == c);
            case 4: return new Made(x.tells(k, u, told), t -> row[t[u]] == told);
            default: return new Made(x.alike(k, u, v), t -> row[t[u]] == row[t[v]]);
        }
    }

    /** Makes a claim in slot k with no slots below it. */
    private Made make(int k, int depth) {
        if (depth == 0 || k == 5) {
            return plain(k);
        }
        Made a = make(k, depth - 1);
        int which = under(4);
        if (a == null || which == 0) {
            return a == null ? null : new Made(x.not(k, k), t -> !a.formula.of(t));
        }
        if (which == 1) {
            int u = under(3);
            int v = (u + 1 + under(2)) % 3;
            return new Made(x.swap(k, k, u, v), t -> a.formula.of(swapped(t, u, v)));
        }
        Made b = make(k + 1, depth - 1);
        if (b == null) {
            return null;
        }
        int kinds = which == 2 ? x.both(k, k, k + 1) : x.either(k, k, k + 1);
        Formula both = t -> a.formula.of(t) && b.formula.of(t);
        Formula either = t -> a.formula.of(t) || b.formula.of(t);
        return kinds == DigitClaims.SPENT ? null : new Made(kinds, which == 2 ? both : either);
    }

    private static int[] swapped(int[] three, int u, int v) {
        int[] other = three.clone();
        other[u] = three[v];
        other[v] = three[u];
        return other;
    }

    private void compare(String name) {
        writeRow();
        Made made = make(0, 1 + under(3));
        if (made == null) {
            return;
        }
        DUE.due(name + " kinds", x.kinds(0), made.kinds);
        for (int time = 0; time < 60; time++) {
            int[] t = {under(32), under(32), under(32)};
            DUE.due(name + " of " + Arrays.toString(t), x.holds(0, t[0], t[1], t[2]), made.formula.of(t) ? 1 : 0);
        }
        for (int n = 0; n <= 3; n++) {
            DUE.due(name + " below " + n, x.below(0, n), count(made.formula, n));
        }
        int shows = dependsBelow(made.formula, 10);
        DUE.due(name + " depends", x.depends(0) & shows, shows);
        DUE.holds(name + " kinds that show", kindsShown(made.formula, 3, 2) <= made.kinds);
        int u = under(3);
        int least = leastBelow(made.formula, u, 12);
        int told = x.least(0, u);
        DUE.holds(name + " least", told == DigitClaims.SPENT || told == least || told == -9 && least == 12
            || told >= 0 && told < least);
        if (made.kinds <= 7) {
            compareSaid(name, made, u);
        }
    }

    /** Whatever number there is, there is one with at most as many digits more as there are KINDS. */
    private void compareSaid(String name, Made made, int u) {
        int most = 1 << 2 + made.kinds;
        DUE.holds(name + " some comes", x.some(1, 0, u) > 0);
        DUE.holds(name + " all comes", x.all(2, 0, u) > 0);
        int v = u == 0 ? 1 : 0;
        int w = 3 - u - v;
        for (int at = 0; at < 16; at++) {
            int[] t = new int[3];
            t[v] = at % 4;
            t[w] = at / 4;
            int yes = 0;
            for (int number = 0; number < most; number++) {
                t[u] = number;
                yes += made.formula.of(t) ? 1 : 0;
            }
            t[u] = under(100);
            DUE.due(name + " some", x.holds(1, t[0], t[1], t[2]), yes > 0 ? 1 : 0);
            DUE.due(name + " all", x.holds(2, t[0], t[1], t[2]), yes == most ? 1 : 0);
        }
        DUE.due(name + " some depends not", x.depends(1) >> u & 1, 0);
        DUE.due(name + " all depends not", x.depends(2) >> u & 1, 0);
    }

    private static long count(Formula formula, int n) {
        long count = 0;
        int mask = (1 << n) - 1;
        for (int at = 0; at < 1 << 3 * n; at++) {
            count += formula.of(new int[] {at & mask, at >> n & mask, at >> 2 * n}) ? 1 : 0;
        }
        return count;
    }

    private static int dependsBelow(Formula formula, int side) {
        int set = 0;
        for (int at = 0; at < side * side * side; at++) {
            int[] t = {at % side, at / side % side, at / side / side};
            boolean so = formula.of(t);
            for (int u = 0; u < 3; u++) {
                int[] zero = t.clone();
                zero[u] = 0;
                set |= formula.of(zero) != so ? 1 << u : 0;
            }
        }
        return set;
    }

    private static int leastBelow(Formula formula, int u, int side) {
        for (int number = 0; number < side; number++) {
            for (int at = 0; at < side * side; at++) {
                int[] t = new int[3];
                t[u] = number;
                t[u == 0 ? 1 : 0] = at % side;
                t[u == 2 ? 1 : 2] = at / side;
                if (formula.of(t)) {
                    return number;
                }
            }
        }
        return side;
    }

    /** How many KINDS of beginnings of so many digits can be told apart by so many digits more. */
    private static int kindsShown(Formula formula, int digits, int more) {
        Set<String> kinds = new HashSet<>();
        int mask = (1 << digits) - 1;
        for (int at = 0; at < 1 << 3 * digits; at++) {
            StringBuilder signature = new StringBuilder();
            for (int n = 0; n <= more; n++) {
                int tail = (1 << n) - 1;
                for (int end = 0; end < 1 << 3 * n; end++) {
                    int[] t = {(at & mask) << n | end & tail, (at >> digits & mask) << n | end >> n & tail,
                        at >> 2 * digits << n | end >> 2 * n};
                    signature.append(formula.of(t) ? '1' : '0');
                }
            }
            kinds.add(signature.toString());
        }
        return kinds.size();
    }

    /** Claims whose KINDS all come with few digits and are all told apart by few more. */
    private static void kindsInFull() {
        DigitClaims x = new DigitClaims();
        DUE.due("equal", x.equal(0, 0, 1), kindsShown(t -> t[0] == t[1], 2, 2));
        DUE.due("less", x.less(0, 0, 1), kindsShown(t -> t[0] < t[1], 2, 2));
        DUE.due("sum", x.sum(1, 0, 1), kindsShown(t -> t[0] + t[1] == t[2], 2, 2));
        DUE.due("both", x.both(2, 0, 1), kindsShown(t -> t[0] < t[1] && t[0] + t[1] == t[2], 3, 2));
        DUE.due("either", x.either(2, 0, 1), kindsShown(t -> t[0] < t[1] || t[0] + t[1] == t[2], 3, 2));
        for (int c = 0; c < 8; c++) {
            int wanted = c;
            DUE.due("is " + c, x.is(3, 2, c), kindsShown(t -> t[2] == wanted, 3, 3));
        }
        x.is(3, 0, 6);
        x.is(4, 1, 3);
        DUE.due("either is", x.either(5, 3, 4), kindsShown(t -> t[0] == 6 || t[1] == 3, 3, 3));
        DUE.due("less or is", x.either(5, 0, 4), kindsShown(t -> t[0] < t[1] || t[1] == 3, 3, 3));
        x.place(0, 0, 1, 0);
        x.place(1, 2, 1, 1);
        x.place(2, 0, 2, 1);
        x.place(3, 3, 3, 2);
        Formula alike = t -> rowOf(t[0]) == rowOf(t[1]);
        DUE.due("alike", x.alike(5, 0, 1), kindsShown(alike, 4, 2));
        DUE.due("tells", x.tells(4, 0, 0), kindsShown(t -> rowOf(t[0]) == 0, 4, 2));
    }

    private static int rowOf(int number) {
        int[][] places = {{0, 1, 0}, {2, 1, 1}, {0, 2, 1}};
        int p = 0;
        for (int digit = 11; digit >= 0; digit--) {
            p = places[p][number >> digit & 1];
        }
        return places[p][2];
    }

    /** The sets that SOME looks at, as the oracle counts them: for each two small numbers, with each number in turn. */
    private static void setsInFull() {
        String row = "place 0 0 1 0; place 1 2 1 1; place 2 1 0 2; ";
        for (String run : new String[] {"less 0 0 1", "sum 0 0 1", "is 0 1 5", "tells 0 2 1", "alike 0 0 2",
            "sum 0 0 1; less 1 0 1; both 0 0 1", "sum 0 0 1; less 1 1 2; either 0 0 1", "tells 0 0 1; sum 1 0 1; both 0 0 1",
            "is 0 2 6; sum 1 0 1; both 0 0 1", "alike 0 0 1; equal 1 1 2; either 0 0 1"}) {
            Oracle oracle = new Oracle();
            for (int[] call : Calls.run(row + run)) {
                Calls.of(oracle, call);
            }
            for (int u = 0; u < 3; u++) {
                oracle.some(5, 0, u);
                DUE.due("sets of some " + u + " of " + run, oracle.lastSets, setsShown(oracle.claims[0], u));
                oracle.all(5, 0, u);
                DUE.due("sets of all " + u + " of " + run, oracle.lastSets, setsShown(oracle.claims[0], u));
            }
        }
    }

    private static int setsShown(Oracle.Machine m, int u) {
        Set<Set<Integer>> sets = new HashSet<>();
        int[] three = new int[3];
        for (int two = 0; two < 1024; two++) {
            three[u == 0 ? 1 : 0] = two % 32;
            three[u == 2 ? 1 : 2] = two / 32;
            Set<Integer> set = new HashSet<>();
            for (int number = 0; number < 512; number++) {
                three[u] = number;
                set.add(kindOf(m, three));
            }
            sets.add(set);
        }
        return sets.size();
    }

    private static int kindOf(Oracle.Machine m, int[] three) {
        int kind = 0;
        for (int digit = 9; digit >= 0; digit--) {
            kind = m.on(kind, new int[] {three[0] >> digit & 1, three[1] >> digit & 1, three[2] >> digit & 1});
        }
        return kind;
    }
}
