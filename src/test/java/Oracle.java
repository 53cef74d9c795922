import java.math.BigInteger;
import java.util.ArrayDeque;
import java.util.ArrayList;
import java.util.BitSet;
import java.util.HashMap;
import java.util.HashSet;
import java.util.List;
import java.util.Map;
import java.util.Set;

/**
 * The document once more, written another way with the Java library, for the tests to compare with: machines are
 * walked out over any objects as states and made least by whole signatures.
 */
final class Oracle {
    static final int UNKNOWN = -1, OUTSIDE = -2, STATE = -3, OVER = -5, SPENT = -6, NONE = -9;
    static final long LOST = Long.MIN_VALUE;
    static final int BILLION = 1000000000;

    interface Walk<S> {
        S first();

        S on(S state, int[] digits);

        boolean yes(S state);
    }

    record Machine(int[][] next, boolean[] yes) {
        int size() {
            return yes.length;
        }

        int on(int state, int[] digits) {
            return next[state][digits[0] + 2 * digits[1] + 4 * digits[2]];
        }
    }

    final Machine[] claims = new Machine[6];
    final int[][] places = new int[5][3];
    /** What the last call looked at: the unlike sets of SOME and ALL, and the KINDS ahead of any refusal. */
    int lastSets, lastKinds;

    // ---- machines

    static int[] digits(int column) {
        return new int[] {column & 1, column >> 1 & 1, column >> 2 & 1};
    }

    static <S> Machine walkOut(Walk<S> walk, int most) {
        Map<S, Integer> numbers = new HashMap<>();
        List<S> states = new ArrayList<>();
        List<int[]> rows = new ArrayList<>();
        states.add(walk.first());
        numbers.put(walk.first(), 0);
        for (int at = 0; at < states.size(); at++) {
            int[] row = new int[8];
            for (int column = 0; column < 8; column++) {
                S to = walk.on(states.get(at), digits(column));
                Integer number = numbers.get(to);
                if (number == null) {
                    number = states.size();
                    numbers.put(to, number);
                    states.add(to);
                    if (states.size() > most) {
                        return null;
                    }
                }
                row[column] = number;
            }
            rows.add(row);
        }
        boolean[] yes = new boolean[states.size()];
        for (int s = 0; s < yes.length; s++) {
            yes[s] = walk.yes(states.get(s));
        }
        return new Machine(rows.toArray(new int[0][]), yes);
    }

    static Machine leastForm(Machine m) {
        int[] sort = new int[m.size()];
        for (int s = 0; s < sort.length; s++) {
            sort[s] = m.yes[s] ? 1 : 0;
        }
        int before = 0;
        while (true) {
            Map<List<Integer>, Integer> seen = new HashMap<>();
            int[] fresh = new int[sort.length];
            for (int s = 0; s < sort.length; s++) {
                List<Integer> signature = new ArrayList<>();
                signature.add(sort[s]);
                for (int to : m.next[s]) {
                    signature.add(sort[to]);
                }
                Integer number = seen.get(signature);
                if (number == null) {
                    number = seen.size();
                    seen.put(signature, number);
                }
                fresh[s] = number;
            }
            sort = fresh;
            if (seen.size() == before) {
                break;
            }
            before = seen.size();
        }
        int[][] next = new int[before][8];
        boolean[] yes = new boolean[before];
        for (int s = 0; s < sort.length; s++) {
            for (int column = 0; column < 8; column++) {
                next[sort[s]][column] = sort[m.next[s][column]];
            }
            yes[sort[s]] = m.yes[s];
        }
        return new Machine(next, yes);
    }

    private int come(int k, Machine m) {
        Machine least = leastForm(m);
        lastKinds = least.size();
        if (least.size() > 60) {
            return SPENT;
        }
        claims[k] = least;
        return least.size();
    }

    // ---- the row

    int place(int p, int zero, int one, int v) {
        if (out(p, 5) || out(zero, 5) || out(one, 5)) return UNKNOWN;
        if (out(v, 3)) return OUTSIDE;
        if (p == 0 && zero != 0) return STATE;
        places[p] = new int[] {zero, one, v};
        return 1;
    }

    int ofPlace(int p, int what) {
        return out(p, 5) ? UNKNOWN : out(what, 3) ? OUTSIDE : places[p][what];
    }

    int row(int number) {
        if (out(number, BILLION + 1)) return OUTSIDE;
        int p = 0;
        for (char digit : (number == 0 ? "" : Integer.toBinaryString(number)).toCharArray()) {
            p = places[p][digit - '0'];
        }
        return places[p][2];
    }

    // ---- plain claims

    static boolean out(int value, int bound) {
        return value < 0 || value >= bound;
    }

    static boolean notTwo(int u, int v) {
        return out(u, 3) || out(v, 3) || u == v;
    }

    int equal(int k, int u, int v) {
        if (out(k, 6) || notTwo(u, v)) return UNKNOWN;
        return come(k, walkOut(new Walk<Boolean>() {
            public Boolean first() { return true; }
            public Boolean on(Boolean s, int[] d) { return s && d[u] == d[v]; }
            public boolean yes(Boolean s) { return s; }
        }, 10));
    }

    int less(int k, int u, int v) {
        if (out(k, 6) || notTwo(u, v)) return UNKNOWN;
        return come(k, walkOut(new Walk<Integer>() {
            public Integer first() { return 0; }
            public Integer on(Integer s, int[] d) { return s != 0 ? s : Integer.valueOf(d[u] - d[v]); }
            public boolean yes(Integer s) { return s < 0; }
        }, 10));
    }

    int sum(int k, int u, int v) {
        if (out(k, 6) || notTwo(u, v)) return UNKNOWN;
        int w = 3 - u - v;
        return come(k, walkOut(new Walk<Integer>() {
            public Integer first() { return 0; }
            // A lead of 3 or more, or of less than 0, never comes back: held at 3 and at -1 the walk has an end.
            public Integer on(Integer s, int[] d) {
                return s < 0 ? -1 : s >= 3 ? 3 : Math.max(-1, Math.min(3, 2 * s + d[w] - d[u] - d[v]));
            }
            public boolean yes(Integer s) { return s == 0; }
        }, 10));
    }

    int is(int k, int u, int c) {
        if (out(k, 6) || out(u, 3)) return UNKNOWN;
        if (out(c, 1000001)) return OUTSIDE;
        return come(k, walkOut(new Walk<Integer>() {
            public Integer first() { return 0; }
            public Integer on(Integer s, int[] d) { return s >= 0 && begins(c, 2 * s + d[u]) ? 2 * s + d[u] : -1; }
            public boolean yes(Integer s) { return s == c; }
        }, 100));
    }

    private static boolean begins(int c, int beginning) {
        for (int digit = 0; digit <= 20; digit++) {
            if (c >> digit == beginning) {
                return true;
            }
        }
        return false;
    }

    int tells(int k, int u, int v) {
        if (out(k, 6) || out(u, 3)) return UNKNOWN;
        if (out(v, 3)) return OUTSIDE;
        return come(k, walkOut(new Walk<Integer>() {
            public Integer first() { return 0; }
            public Integer on(Integer s, int[] d) { return places[s][d[u]]; }
            public boolean yes(Integer s) { return places[s][2] == v; }
        }, 10));
    }

    int alike(int k, int u, int v) {
        if (out(k, 6) || notTwo(u, v)) return UNKNOWN;
        return come(k, walkOut(new Walk<List<Integer>>() {
            public List<Integer> first() { return List.of(0, 0); }
            public List<Integer> on(List<Integer> s, int[] d) {
                return List.of(places[s.get(0)][d[u]], places[s.get(1)][d[v]]);
            }
            public boolean yes(List<Integer> s) { return places[s.get(0)][2] == places[s.get(1)][2]; }
        }, 30));
    }

    // ---- claims from others

    private int join(int k, int i, int j, boolean needsBoth) {
        if (out(k, 6) || out(i, 6) || out(j, 6)) return UNKNOWN;
        if (claims[i] == null || claims[j] == null) return STATE;
        return come(k, productOf(claims[i], claims[j], needsBoth));
    }

    private static Machine productOf(Machine a, Machine b, boolean needsBoth) {
        return walkOut(new Walk<List<Integer>>() {
            public List<Integer> first() { return List.of(0, 0); }
            public List<Integer> on(List<Integer> s, int[] d) {
                return List.of(a.on(s.get(0), d), b.on(s.get(1), d));
            }
            public boolean yes(List<Integer> s) {
                boolean inA = a.yes[s.get(0)];
                boolean inB = b.yes[s.get(1)];
                return needsBoth ? inA & inB : inA | inB;
            }
        }, 5000);
    }

    int both(int k, int i, int j) {
        return join(k, i, j, true);
    }

    int either(int k, int i, int j) {
        return join(k, i, j, false);
    }

    int not(int k, int i) {
        if (out(k, 6) || out(i, 6)) return UNKNOWN;
        if (claims[i] == null) return STATE;
        return come(k, turned(claims[i]));
    }

    private static Machine turned(Machine m) {
        boolean[] yes = new boolean[m.size()];
        for (int s = 0; s < yes.length; s++) {
            yes[s] = !m.yes[s];
        }
        return new Machine(m.next, yes);
    }

    int swap(int k, int i, int u, int v) {
        if (out(k, 6) || out(i, 6) || notTwo(u, v)) return UNKNOWN;
        if (claims[i] == null) return STATE;
        Machine m = claims[i];
        return come(k, walkOut(new Walk<Integer>() {
            public Integer first() { return 0; }
            public Integer on(Integer s, int[] d) {
                int[] e = d.clone();
                e[u] = d[v];
                e[v] = d[u];
                return m.on(s, e);
            }
            public boolean yes(Integer s) { return m.yes[s]; }
        }, 100));
    }

    private Machine someOf(Machine m, int u) {
        BitSet start = new BitSet();
        ArrayDeque<Integer> open = new ArrayDeque<>(List.of(0));
        while (!open.isEmpty()) {
            int s = open.pop();
            if (!start.get(s)) {
                start.set(s);
                open.push(m.next[s][0]);
                open.push(m.next[s][1 << u]);
            }
        }
        Machine sets = walkOut(new Walk<BitSet>() {
            public BitSet first() { return start; }
            public BitSet on(BitSet set, int[] d) {
                BitSet to = new BitSet();
                for (int s = set.nextSetBit(0); s >= 0; s = set.nextSetBit(s + 1)) {
                    int[] e = d.clone();
                    e[u] = 0;
                    to.set(m.on(s, e));
                    e[u] = 1;
                    to.set(m.on(s, e));
                }
                return to;
            }
            public boolean yes(BitSet set) { return set.stream().anyMatch(s -> m.yes[s]); }
        }, 300);
        lastSets = sets == null ? 301 : sets.size();
        return sets;
    }

    int some(int k, int i, int u) {
        if (out(k, 6) || out(i, 6) || out(u, 3)) return UNKNOWN;
        if (claims[i] == null) return STATE;
        Machine m = someOf(claims[i], u);
        return m == null ? SPENT : come(k, m);
    }

    int all(int k, int i, int u) {
        if (out(k, 6) || out(i, 6) || out(u, 3)) return UNKNOWN;
        if (claims[i] == null) return STATE;
        Machine m = someOf(turned(claims[i]), u);
        return m == null ? SPENT : come(k, turned(m));
    }

    // ---- what is told

    private boolean holdsOf(Machine m, int... three) {
        int s = 0;
        for (int digit = 30; digit >= 0; digit--) {
            s = m.on(s, new int[] {three[0] >> digit & 1, three[1] >> digit & 1, three[2] >> digit & 1});
        }
        return m.yes[s];
    }

    int holds(int k, int x, int y, int z) {
        if (out(k, 6)) return UNKNOWN;
        if (out(x, BILLION + 1) || out(y, BILLION + 1) || out(z, BILLION + 1)) return OUTSIDE;
        return claims[k] == null ? STATE : holdsOf(claims[k], x, y, z) ? 1 : 0;
    }

    private static boolean apart(Machine a, Machine b, int free) {
        Set<List<Integer>> seen = new HashSet<>();
        ArrayDeque<List<Integer>> open = new ArrayDeque<>();
        open.add(List.of(0, 0));
        while (!open.isEmpty()) {
            List<Integer> pair = open.poll();
            if (!seen.add(pair)) {
                continue;
            }
            if (a.yes[pair.get(0)] != b.yes[pair.get(1)]) {
                return true;
            }
            for (int column = 0; column < 8; column++) {
                open.add(List.of(a.next[pair.get(0)][column], b.next[pair.get(1)][column]));
                open.add(List.of(a.next[pair.get(0)][column], b.next[pair.get(1)][column ^ free]));
            }
        }
        return false;
    }

    int depends(int k) {
        if (out(k, 6)) return UNKNOWN;
        if (claims[k] == null) return STATE;
        int set = 0;
        for (int u = 0; u < 3; u++) {
            set |= apart(claims[k], claims[k], 1 << u) ? 1 << u : 0;
        }
        return set;
    }

    int kinds(int k) {
        return out(k, 6) ? UNKNOWN : claims[k] == null ? STATE : claims[k].size();
    }

    long below(int k, int n) {
        if (out(k, 6) || out(n, 13) || claims[k] == null) return LOST;
        Machine m = claims[k];
        if (n <= 2) {
            long count = 0;
            for (int at = 0; at < 1 << 3 * n; at++) {
                int mask = (1 << n) - 1;
                count += holdsOf(m, at & mask, at >> n & mask, at >> 2 * n) ? 1 : 0;
            }
            return count;
        }
        long[] come = new long[m.size()];
        come[0] = 1;
        for (int digit = 0; digit < n; digit++) {
            long[] fresh = new long[m.size()];
            for (int s = 0; s < come.length; s++) {
                for (int to : m.next[s]) {
                    fresh[to] += come[s];
                }
            }
            come = fresh;
        }
        long count = 0;
        for (int s = 0; s < come.length; s++) {
            count += m.yes[s] ? come[s] : 0;
        }
        return count;
    }

    int least(int k, int u) {
        if (out(k, 6) || out(u, 3)) return UNKNOWN;
        if (claims[k] == null) return STATE;
        Machine m = claims[k];
        for (int v = 0; v < 3; v++) {
            if (v != u) {
                Machine sets = someOf(m, v);
                m = sets == null ? null : leastForm(sets);
                if (m == null || m.size() > 60) return SPENT;
            }
        }
        BigInteger least = leastNumber(m, u);
        if (least == null) return NONE;
        return least.compareTo(BigInteger.valueOf(BILLION)) > 0 ? OVER : least.intValue();
    }

    /** Looks for the fewest digits first, then puts a 0 wherever what is left can still be met. */
    private static BigInteger leastNumber(Machine m, int u) {
        int n = m.size();
        boolean[][] met = new boolean[n + 1][];
        met[0] = m.yes;
        for (int left = 0; left <= n; left++) {
            if (left > 0) {
                met[left] = new boolean[n];
                for (int s = 0; s < n; s++) {
                    met[left][s] = met[left - 1][m.next[s][0]] || met[left - 1][m.next[s][1 << u]];
                }
            }
            if (met[left][0]) {
                BigInteger number = BigInteger.ZERO;
                int s = 0;
                for (int rest = left - 1; rest >= 0; rest--) {
                    int digit = met[rest][m.next[s][0]] ? 0 : 1;
                    number = number.shiftLeft(1).add(BigInteger.valueOf(digit));
                    s = m.next[s][digit << u];
                }
                return number;
            }
        }
        return null;
    }

    int same(int i, int j) {
        if (out(i, 6) || out(j, 6)) return UNKNOWN;
        if (claims[i] == null || claims[j] == null) return STATE;
        return apart(claims[i], claims[j], 0) ? 0 : 1;
    }

    int drop(int k) {
        int had = kinds(k);
        if (had > 0) {
            claims[k] = null;
        }
        return had;
    }

    int many(int what) {
        if (out(what, 2)) return OUTSIDE;
        int count = 0;
        for (Machine m : claims) {
            count += m == null ? 0 : what == 0 ? 1 : m.size();
        }
        return count;
    }
}
