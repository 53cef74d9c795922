/** Each promise of the document: ordinary inputs, the edges that it names, wrong inputs. */
public final class PromisesTest {
    private static final int X = 0, Y = 1, Z = 2;
    private static final int UNKNOWN = -1, OUTSIDE = -2, STATE = -3, OVER = -5, SPENT = -6, NONE = -9;
    private static final int BILLION = 1000000000;
    private static final int[] NOT_CLAIMS = {-1, 6, Integer.MIN_VALUE, Integer.MAX_VALUE};
    private static final int[] NOT_NUMBERS = {-1, 3, Integer.MIN_VALUE, Integer.MAX_VALUE};
    private static final int[] NOT_PLACES = {-1, 5, Integer.MIN_VALUE, Integer.MAX_VALUE};
    private static final int[] NOT_TELLINGS = {-1, 3, Integer.MIN_VALUE, Integer.MAX_VALUE};
    private static final int[] NOT_TOLD = {-1, BILLION + 1, Integer.MIN_VALUE, Integer.MAX_VALUE};

    private static final Due DUE = new Due();

    private static void due(String what, long got, long want) {
        DUE.due(what, got, want);
    }

    public static void main(String[] args) {
        constants();
        newObject();
        place();
        ofPlace();
        row();
        equal();
        less();
        sum();
        is();
        tells();
        alike();
        both();
        either();
        not();
        swap();
        some();
        all();
        holds();
        depends();
        kinds();
        below();
        least();
        same();
        drop();
        many();
        DUE.end();
    }

    /** The row of Thue and Morse: 1 where the number has an odd count of digits 1. */
    private static DigitClaims withOddRow() {
        DigitClaims x = new DigitClaims();
        x.place(0, 0, 1, 0);
        x.place(1, 1, 0, 1);
        return x;
    }

    private static void constants() {
        due("UNKNOWN", DigitClaims.UNKNOWN, UNKNOWN);
        due("OUTSIDE", DigitClaims.OUTSIDE, OUTSIDE);
        due("STATE", DigitClaims.STATE, STATE);
        due("OVER", DigitClaims.OVER, OVER);
        due("SPENT", DigitClaims.SPENT, SPENT);
        due("NONE", DigitClaims.NONE, NONE);
        due("LOST", DigitClaims.LOST, Long.MIN_VALUE);
    }

    private static void newObject() {
        DigitClaims x = new DigitClaims();
        due("1 many 0", x.many(0), 0);
        due("1 many 1", x.many(1), 0);
        for (int k = 0; k < 6; k++) {
            due("1 kinds", x.kinds(k), STATE);
        }
        for (int p = 0; p < 5; p++) {
            for (int what = 0; what < 3; what++) {
                due("1 ofPlace", x.ofPlace(p, what), 0);
            }
        }
        DigitClaims other = new DigitClaims();
        x.equal(0, X, Y);
        x.place(1, 2, 3, 1);
        due("1 another object's claims", other.many(0), 0);
        due("1 another object's row", other.ofPlace(1, 0), 0);
    }

    private static void place() {
        DigitClaims x = new DigitClaims();
        due("2 place 0", x.place(0, 0, 4, 2), 1);
        due("2 place 4", x.place(4, 4, 0, 1), 1);
        due("2 place 4 by 1", x.ofPlace(4, 0), 4);
        for (int p : NOT_PLACES) {
            due("2 no such place", x.place(p, 0, 0, 3), UNKNOWN);
            due("2 no such zero", x.place(0, p, 0, 3), UNKNOWN);
            due("2 no such one", x.place(1, 0, p, -1), UNKNOWN);
        }
        for (int v : NOT_TELLINGS) {
            due("2 v, ahead of STATE", x.place(0, 1, 0, v), OUTSIDE);
            due("2 v", x.place(1, 1, 0, v), OUTSIDE);
        }
        due("2 place 0 by 0 to 1", x.place(0, 1, 4, 2), STATE);
        due("2 place 0 by 0 to 4", x.place(0, 4, 4, 2), STATE);
        due("2 refused: zero", x.ofPlace(0, 0), 0);
        due("2 refused: one", x.ofPlace(0, 1), 4);
        due("2 refused: told", x.ofPlace(0, 2), 2);
        due("2 refused: place 1", x.ofPlace(1, 0), 0);
        claimsStayWhenTheRowChanges();
    }

    private static void claimsStayWhenTheRowChanges() {
        DigitClaims x = withOddRow();
        x.tells(0, X, 1);
        x.alike(1, X, Y);
        x.place(0, 0, 0, 0);
        due("2 tells stays", x.holds(0, 7, 0, 0), 1);
        due("2 tells stays, too", x.holds(0, 3, 0, 0), 0);
        due("2 alike stays", x.holds(1, 7, 3, 0), 0);
        due("2 the row changed", x.row(7), 0);
        due("2 a new claim goes by the new row", x.tells(2, X, 1), 1);
    }

    private static void ofPlace() {
        DigitClaims x = new DigitClaims();
        x.place(3, 4, 2, 1);
        due("3 by 0", x.ofPlace(3, 0), 4);
        due("3 by 1", x.ofPlace(3, 1), 2);
        due("3 told", x.ofPlace(3, 2), 1);
        for (int p : NOT_PLACES) {
            due("3 no such place", x.ofPlace(p, 3), UNKNOWN);
        }
        for (int what : new int[] {-1, 3, Integer.MIN_VALUE, Integer.MAX_VALUE}) {
            due("3 what", x.ofPlace(0, what), OUTSIDE);
        }
    }

    private static void row() {
        DigitClaims x = withOddRow();
        for (int number : new int[] {0, 1, 2, 3, 4, 5, 6, 7, 12345, 536870911, 536870912, BILLION - 1, BILLION}) {
            due("4 row of " + number, x.row(number), Integer.bitCount(number) % 2);
        }
        for (int number : NOT_TOLD) {
            due("4 row of " + number, x.row(number), OUTSIDE);
        }
        x.place(0, 0, 1, 2);
        due("4 row of 0", x.row(0), 2);
        highestDigitFirst();
    }

    private static void highestDigitFirst() {
        DigitClaims x = new DigitClaims();
        x.place(0, 0, 1, 0);
        x.place(1, 2, 1, 1);
        x.place(2, 2, 1, 2);
        due("4 row of 110", x.row(6), 2);
        due("4 row of 011", x.row(3), 1);
        due("4 row of 10", x.row(2), 2);
    }

    private static void equal() {
        DigitClaims x = new DigitClaims();
        due("5 equal", x.equal(0, X, Y), 2);
        due("5 turned", x.equal(1, Y, X), 2);
        due("5 the same", x.same(0, 1), 1);
        due("5 of 5, 5", x.holds(0, 5, 5, 9), 1);
        due("5 of 5, 6", x.holds(0, 5, 6, 6), 0);
        due("5 of 5, 10", x.holds(0, 5, 10, 5), 0);
        due("5 the last claim", x.equal(5, Y, Z), 2);
        due("5 of Y, Z", x.holds(5, 1, BILLION, BILLION), 1);
        due("5 in place of what was", x.equal(5, X, Z), 2);
        due("5 of X, Z", x.holds(5, 1, BILLION, BILLION), 0);
        for (int bad : NOT_CLAIMS) {
            due("5 no such claim", x.equal(bad, X, Y), UNKNOWN);
        }
        for (int bad : NOT_NUMBERS) {
            due("5 no such u", x.equal(0, bad, Y), UNKNOWN);
            due("5 no such v", x.equal(0, X, bad), UNKNOWN);
            due("5 neither", x.equal(0, bad, bad), UNKNOWN);
        }
        for (int u = 0; u < 3; u++) {
            due("5 one and the same", x.equal(0, u, u), UNKNOWN);
        }
        due("5 refused changes nothing", x.same(0, 1), 1);
    }

    private static void less() {
        DigitClaims x = new DigitClaims();
        due("6 less", x.less(0, X, Z), 3);
        due("6 of 3, 4", x.holds(0, 3, 9, 4), 1);
        due("6 of 4, 4", x.holds(0, 4, 9, 4), 0);
        due("6 of 5, 4", x.holds(0, 5, 9, 4), 0);
        due("6 of 7, 8", x.holds(0, 7, 0, 8), 1);
        due("6 turned", x.less(1, Z, X), 3);
        due("6 turned of 5, 4", x.holds(1, 5, 9, 4), 1);
        due("6 count", x.below(0, 4), 120 * 16);
        for (int bad : NOT_CLAIMS) {
            due("6 no such claim", x.less(bad, X, Y), UNKNOWN);
        }
        for (int bad : NOT_NUMBERS) {
            due("6 no such u", x.less(0, bad, Y), UNKNOWN);
            due("6 no such v", x.less(0, X, bad), UNKNOWN);
        }
        for (int u = 0; u < 3; u++) {
            due("6 one and the same", x.less(0, u, u), UNKNOWN);
        }
    }

    private static void sum() {
        DigitClaims x = new DigitClaims();
        int[][] thirds = {{X, Y, Z}, {Y, Z, X}, {Z, X, Y}, {Y, X, Z}};
        for (int[] t : thirds) {
            due("7 sum", x.sum(0, t[0], t[1]), 3);
            for (int at = 0; at < 8; at++) {
                int[] three = new int[3];
                three[t[0]] = 13 * at;
                three[t[1]] = 7 * at + 3;
                three[t[2]] = 20 * at + 3 + (at % 3 == 0 ? 1 : 0);
                due("7 of " + at, x.holds(0, three[0], three[1], three[2]), at % 3 == 0 ? 0 : 1);
            }
        }
        x.sum(0, X, Y);
        due("7 great ones", x.holds(0, 500000000, 500000000, BILLION), 1);
        due("7 great ones, one off", x.holds(0, 500000000, 499999999, BILLION), 0);
        due("7 nothing", x.holds(0, 0, 0, 0), 1);
        for (int bad : NOT_CLAIMS) {
            due("7 no such claim", x.sum(bad, X, Y), UNKNOWN);
        }
        for (int bad : NOT_NUMBERS) {
            due("7 no such u", x.sum(0, bad, Y), UNKNOWN);
            due("7 no such v", x.sum(0, X, bad), UNKNOWN);
        }
        for (int u = 0; u < 3; u++) {
            due("7 one and the same", x.sum(0, u, u), UNKNOWN);
        }
    }

    private static void is() {
        DigitClaims x = new DigitClaims();
        for (int c : new int[] {0, 1, 2, 3, 4, 7, 8, 524287, 524288, 999999, 1000000}) {
            int digits = c == 0 ? 0 : Integer.toBinaryString(c).length();
            for (int u = 0; u < 3; u++) {
                due("8 is " + c, x.is(u, u, c), digits + 2);
                due("8 of it", x.holds(u, u == 0 ? c : 3, u == 1 ? c : 3, u == 2 ? c : 3), 1);
                due("8 of one more", x.holds(u, c + 1, c + 1, c + 1), 0);
                due("8 of twice and 1", x.holds(u, 2 * c + 1, 2 * c + 1, 2 * c + 1), 0);
                due("8 least", x.least(u, u), c);
            }
        }
        due("8 of ten ahead", x.holds(0, 1000000 + (1 << 20), 0, 0), 0);
        for (int bad : NOT_CLAIMS) {
            due("8 no such claim", x.is(bad, X, -1), UNKNOWN);
        }
        for (int bad : NOT_NUMBERS) {
            due("8 no such u", x.is(0, bad, 1000001), UNKNOWN);
        }
        for (int c : new int[] {-1, 1000001, Integer.MIN_VALUE, Integer.MAX_VALUE}) {
            due("8 c", x.is(0, X, c), OUTSIDE);
        }
    }

    private static void tells() {
        DigitClaims x = withOddRow();
        for (int u = 0; u < 3; u++) {
            due("9 tells", x.tells(u, u, 1), 2);
            for (int number : new int[] {0, 1, 2, 3, 7, 11, 999999999, BILLION}) {
                due("9 of " + number, x.holds(u, number, number, number), Integer.bitCount(number) % 2);
            }
            due("9 depends", x.depends(u), 1 << u);
        }
        due("9 none tells 2", x.tells(0, X, 2), 1);
        due("9 it holds of none", x.least(0, X), NONE);
        x.place(4, 0, 0, 2);
        due("9 a place that none comes to", x.tells(0, X, 2), 1);
        x.place(0, 0, 1, 1);
        x.place(1, 0, 1, 1);
        due("9 places that tell the same", x.tells(0, X, 1), 1);
        for (int bad : NOT_CLAIMS) {
            due("9 no such claim", x.tells(bad, X, 3), UNKNOWN);
        }
        for (int bad : NOT_NUMBERS) {
            due("9 no such u", x.tells(0, bad, -1), UNKNOWN);
        }
        for (int v : NOT_TELLINGS) {
            due("9 v", x.tells(0, X, v), OUTSIDE);
        }
    }

    private static void alike() {
        DigitClaims x = new DigitClaims();
        due("10 alike, all to 0", x.alike(0, X, Y), 1);
        due("10 it holds of all", x.below(0, 12), 1L << 36);
        x = withOddRow();
        due("10 alike", x.alike(0, Y, Z), 2);
        for (int at = 0; at < 20; at++) {
            int want = Integer.bitCount(at) % 2 == Integer.bitCount(3 * at + 1) % 2 ? 1 : 0;
            due("10 of " + at, x.holds(0, 1, at, 3 * at + 1), want);
        }
        due("10 turned", x.alike(1, Z, Y), 2);
        due("10 the same", x.same(0, 1), 1);
        due("10 depends", x.depends(0), 6);
        for (int bad : NOT_CLAIMS) {
            due("10 no such claim", x.alike(bad, X, Y), UNKNOWN);
        }
        for (int bad : NOT_NUMBERS) {
            due("10 no such u", x.alike(0, bad, Y), UNKNOWN);
            due("10 no such v", x.alike(0, X, bad), UNKNOWN);
        }
        for (int u = 0; u < 3; u++) {
            due("10 one and the same", x.alike(0, u, u), UNKNOWN);
        }
    }

    private static void both() {
        DigitClaims x = new DigitClaims();
        x.less(0, X, Y);
        x.less(1, Y, Z);
        due("11 x < y < z", x.both(2, 0, 1), 5);
        due("11 of 1, 2, 3", x.holds(2, 1, 2, 3), 1);
        due("11 of 1, 3, 3", x.holds(2, 1, 3, 3), 0);
        due("11 of 3, 1, 2", x.holds(2, 3, 1, 2), 0);
        due("11 count", x.below(2, 3), 56);
        due("11 in its own place", x.both(0, 0, 1), 5);
        due("11 the same", x.same(0, 2), 1);
        due("11 with itself", x.both(3, 2, 2), 5);
        x.less(0, X, Y);
        x.less(1, Y, X);
        due("11 x < y and y < x", x.both(1, 0, 1), 1);
        due("11 it holds of none", x.below(1, 5), 0);
        refusalsOfTwo(true);
    }

    private static void either() {
        DigitClaims x = new DigitClaims();
        x.less(0, X, Y);
        x.less(1, Y, X);
        due("12 x is not y", x.either(2, 0, 1), 2);
        due("12 of 1, 2", x.holds(2, 1, 2, 0), 1);
        due("12 of 2, 1", x.holds(2, 2, 1, 0), 1);
        due("12 of 2, 2", x.holds(2, 2, 2, 0), 0);
        x.equal(3, X, Y);
        due("12 x not y, x is y", x.either(3, 2, 3), 1);
        due("12 it holds of all", x.below(3, 5), 1 << 15);
        x.is(0, X, 3);
        x.is(1, Y, 3);
        x.either(0, 0, 1);
        due("12 of both", x.holds(0, 3, 3, 0), 1);
        due("12 of one", x.holds(0, 3, 4, 0), 1);
        due("12 of the other", x.holds(0, 4, 3, 0), 1);
        due("12 of neither", x.holds(0, 4, 4, 3), 0);
        refusalsOfTwo(false);
    }

    private static long join(DigitClaims x, boolean both, int k, int i, int j) {
        return both ? x.both(k, i, j) : x.either(k, i, j);
    }

    private static void refusalsOfTwo(boolean both) {
        DigitClaims x = new DigitClaims();
        for (int bad : NOT_CLAIMS) {
            due("11, 12 no such k", join(x, both, bad, 0, 0), UNKNOWN);
            due("11, 12 no such i", join(x, both, 0, bad, 0), UNKNOWN);
            due("11, 12 no such j", join(x, both, 0, 0, bad), UNKNOWN);
        }
        x.equal(0, X, Y);
        due("11, 12 i is not there", join(x, both, 2, 1, 0), STATE);
        due("11, 12 j is not there", join(x, both, 2, 0, 1), STATE);
        due("11, 12 j is not there, k is", join(x, both, 0, 0, 1), STATE);
        due("11, 12 refused: what was", x.kinds(0), 2);
        due("11, 12 refused: nothing came", x.kinds(2), STATE);
        due("11, 12 k need not be there", join(x, both, 2, 0, 0), 2);
    }

    private static void not() {
        DigitClaims x = new DigitClaims();
        x.sum(0, X, Y);
        due("13 not", x.not(1, 0), 3);
        due("13 of 1, 2, 3", x.holds(1, 1, 2, 3), 0);
        due("13 of 1, 2, 4", x.holds(1, 1, 2, 4), 1);
        due("13 counts", x.below(0, 6) + x.below(1, 6), 1L << 18);
        due("13 in its own place", x.not(1, 1), 3);
        due("13 twice", x.same(0, 1), 1);
        x.equal(2, X, Y);
        x.not(2, 2);
        due("13 x is not y", x.holds(2, 8, 4, 0), 1);
        for (int bad : NOT_CLAIMS) {
            due("13 no such k", x.not(bad, 0), UNKNOWN);
            due("13 no such i", x.not(0, bad), UNKNOWN);
            due("13 no such k, i is not there", x.not(bad, 5), UNKNOWN);
        }
        due("13 i is not there", x.not(0, 5), STATE);
        due("13 refused: what was", x.holds(0, 1, 2, 3), 1);
    }

    private static void swap() {
        DigitClaims x = new DigitClaims();
        x.less(0, X, Y);
        x.less(1, Y, X);
        due("14 swap", x.swap(2, 0, X, Y), 3);
        due("14 y < x", x.same(2, 1), 1);
        due("14 turned", x.swap(2, 0, Y, X), 3);
        due("14 y < x, too", x.same(2, 1), 1);
        x.less(3, Z, Y);
        x.swap(2, 0, X, Z);
        due("14 z < y", x.same(2, 3), 1);
        x.swap(2, 2, Z, X);
        due("14 in its own place, back", x.same(2, 0), 1);
        x.is(4, X, 11);
        due("14 of numbers that count not", x.swap(5, 4, Y, Z), 6);
        due("14 it stays", x.same(5, 4), 1);
        due("14 x to z", x.swap(5, 4, X, Z), 6);
        due("14 depends", x.depends(5), 4);
        due("14 least", x.least(5, Z), 11);
        for (int bad : NOT_CLAIMS) {
            due("14 no such k", x.swap(bad, 0, X, Y), UNKNOWN);
            due("14 no such i", x.swap(0, bad, X, Y), UNKNOWN);
        }
        x.drop(5);
        for (int bad : NOT_NUMBERS) {
            due("14 no such u", x.swap(0, 5, bad, Y), UNKNOWN);
            due("14 no such v", x.swap(0, 5, X, bad), UNKNOWN);
        }
        for (int u = 0; u < 3; u++) {
            due("14 one and the same, i is not there", x.swap(0, 5, u, u), UNKNOWN);
        }
        due("14 i is not there", x.swap(0, 5, X, Y), STATE);
    }

    private static void some() {
        DigitClaims x = new DigitClaims();
        x.equal(0, X, Y);
        x.sum(1, X, Y);
        x.both(0, 0, 1);
        x.some(0, 0, X);
        due("15 some y that twice is z", x.some(0, 0, Y), 2);
        for (int z = 0; z < 12; z++) {
            due("15 z is even: " + z, x.holds(0, 7, 8, z), 1 - z % 2);
        }
        x.less(1, X, Y);
        due("15 some y above x", x.some(2, 1, Y), 1);
        due("15 it holds of all", x.below(2, 2), 64);
        due("15 some x below y", x.some(2, 1, X), 2);
        due("15 of y 0", x.holds(2, 5, 0, 5), 0);
        due("15 of y 1", x.holds(2, 5, 1, 5), 1);
        due("15 a number that counts not", x.some(3, 1, Z), 3);
        due("15 it stays", x.same(3, 1), 1);
        x.is(4, Y, 1000000);
        x.both(4, 4, 1);
        // 21 beginnings of 1000000, 19 gaps between them, what is above; the 7 that only zeros end are of other kinds.
        due("15 a witness with more digits than all others", x.some(4, 4, Y), 21 + 19 + 1 - 7);
        due("15 of x 0", x.holds(4, 0, 0, 0), 1);
        due("15 of x 999999", x.holds(4, 999999, 0, 0), 1);
        due("15 of x 1000000", x.holds(4, 1000000, 0, 0), 0);
        refusalsOfSaid(false);
    }

    private static void all() {
        DigitClaims x = new DigitClaims();
        x.less(0, Y, X);
        x.not(0, 0);
        due("16 x is at most each y", x.all(1, 0, Y), 2);
        due("16 of 0", x.holds(1, 0, 9, 9), 1);
        due("16 of 1", x.holds(1, 1, 9, 9), 0);
        due("16 each x is at most y", x.all(1, 0, X), 1);
        due("16 of none", x.below(1, 4), 0);
        due("16 a number that counts not", x.all(1, 0, Z), x.kinds(0));
        due("16 it stays", x.same(1, 0), 1);
        x.sum(2, X, Y);
        x.not(3, 2);
        x.some(3, 3, Z);
        x.not(3, 3);
        due("16 each z is x and y", x.all(4, 2, Z), 1);
        due("16 as not some not", x.same(3, 4), 1);
        due("16 in its own place", x.all(2, 2, Z), 1);
        x.less(0, X, Y);
        due("16 only one breaks it, with more digits", x.is(1, Y, 1000000), 22);
        x.not(1, 1);
        x.either(1, 1, 0);
        due("16 y is 1000000: x is less", x.all(1, 1, Y), 34);
        due("16 of 999999", x.holds(1, 999999, 0, 0), 1);
        due("16 of 1000000", x.holds(1, 1000000, 0, 0), 0);
        refusalsOfSaid(true);
    }

    private static long say(DigitClaims x, boolean ofAll, int k, int i, int u) {
        return ofAll ? x.all(k, i, u) : x.some(k, i, u);
    }

    private static void refusalsOfSaid(boolean ofAll) {
        DigitClaims x = new DigitClaims();
        for (int bad : NOT_CLAIMS) {
            due("15, 16 no such k", say(x, ofAll, bad, 0, X), UNKNOWN);
            due("15, 16 no such i", say(x, ofAll, 0, bad, X), UNKNOWN);
        }
        for (int bad : NOT_NUMBERS) {
            due("15, 16 no such u, i is not there", say(x, ofAll, 0, 0, bad), UNKNOWN);
        }
        x.equal(0, X, Y);
        due("15, 16 i is not there", say(x, ofAll, 0, 1, X), STATE);
        due("15, 16 refused: what was", x.kinds(0), 2);
        due("15, 16 k need not be there", say(x, ofAll, 1, 0, Z), 2);
    }

    private static void holds() {
        DigitClaims x = new DigitClaims();
        x.less(3, X, Y);
        due("17 so", x.holds(3, 0, 1, BILLION), 1);
        due("17 not so", x.holds(3, 1, 0, BILLION), 0);
        due("17 the greatest", x.holds(3, 999999999, BILLION, BILLION), 1);
        due("17 the greatest, turned", x.holds(3, BILLION, 999999999, BILLION), 0);
        for (int bad : NOT_CLAIMS) {
            due("17 no such claim", x.holds(bad, -1, 0, 0), UNKNOWN);
        }
        for (int bad : NOT_TOLD) {
            due("17 x", x.holds(3, bad, 0, 0), OUTSIDE);
            due("17 y", x.holds(3, 0, bad, 0), OUTSIDE);
            due("17 z", x.holds(3, 0, 0, bad), OUTSIDE);
            due("17 z, it is not there", x.holds(0, 0, 0, bad), OUTSIDE);
        }
        due("17 it is not there", x.holds(0, 0, 0, 0), STATE);
    }

    private static void depends() {
        DigitClaims x = new DigitClaims();
        x.sum(0, X, Z);
        due("18 sum", x.depends(0), 7);
        x.equal(1, X, Z);
        due("18 equal", x.depends(1), 5);
        x.both(2, 0, 1);
        due("18 x + z = y, x = z", x.depends(2), 7);
        x.some(2, 2, X);
        due("18 some x", x.depends(2), 6);
        x.some(2, 2, Z);
        due("18 y is even", x.depends(2), 2);
        x.some(2, 2, Y);
        due("18 nothing left", x.depends(2), 0);
        x.not(2, 2);
        due("18 of none", x.depends(2), 0);
        for (int bad : NOT_CLAIMS) {
            due("18 no such claim", x.depends(bad), UNKNOWN);
        }
        due("18 it is not there", x.depends(5), STATE);
    }

    private static void kinds() {
        DigitClaims x = new DigitClaims();
        x.is(5, Z, 5);
        due("19 kinds", x.kinds(5), 5);
        x.not(5, 5);
        due("19 of not", x.kinds(5), 5);
        for (int bad : NOT_CLAIMS) {
            due("19 no such claim", x.kinds(bad), UNKNOWN);
        }
        due("19 it is not there", x.kinds(0), STATE);
    }

    private static void below() {
        DigitClaims x = new DigitClaims();
        x.sum(0, X, Y);
        for (int n = 0; n <= 12; n++) {
            long side = 1L << n;
            due("20 sums below 2 to the " + n, x.below(0, n), side * (side + 1) / 2);
        }
        x.less(1, Z, Y);
        due("20 less", x.below(1, 12), 4096L * (4096L * 4095L / 2));
        x.both(2, 1, 1);
        x.not(3, 1);
        x.either(2, 2, 3);
        due("20 all", x.below(2, 12), 1L << 36);
        due("20 all below 1", x.below(2, 0), 1);
        x.not(2, 2);
        due("20 none", x.below(2, 12), 0);
        for (int bad : NOT_CLAIMS) {
            due("20 no such claim", x.below(bad, 0), DigitClaims.LOST);
        }
        for (int n : new int[] {-1, 13, Integer.MIN_VALUE, Integer.MAX_VALUE}) {
            due("20 n", x.below(0, n), DigitClaims.LOST);
        }
        due("20 it is not there", x.below(5, 0), DigitClaims.LOST);
    }

    private static void least() {
        DigitClaims x = new DigitClaims();
        x.is(0, X, 37);
        x.less(1, X, Y);
        x.both(2, 0, 1);
        due("21 x", x.least(2, X), 37);
        due("21 y", x.least(2, Y), 38);
        due("21 z", x.least(2, Z), 0);
        x.sum(3, X, Y);
        x.both(2, 2, 3);
        due("21 z above 37 and 38", x.least(2, Z), 75);
        x.not(4, 0);
        due("21 not 37", x.least(4, X), 0);
        x.both(4, 4, 0);
        for (int u = 0; u < 3; u++) {
            due("21 of none", x.least(4, u), NONE);
        }
        due("21 changes nothing", x.kinds(2) + 100 * x.many(0), 500 + x.kinds(2));
        for (int bad : NOT_CLAIMS) {
            due("21 no such claim", x.least(bad, X), UNKNOWN);
        }
        for (int bad : NOT_NUMBERS) {
            due("21 no such number, it is not there", x.least(5, bad), UNKNOWN);
        }
        due("21 it is not there", x.least(5, X), STATE);
    }

    private static void same() {
        DigitClaims x = new DigitClaims();
        x.less(0, X, Y);
        x.sum(1, X, Z);
        x.is(2, Z, 0);
        x.not(2, 2);
        x.both(1, 1, 2);
        x.some(1, 1, Z);
        due("22 less as a sum with some more", x.same(0, 1), 1);
        due("22 turned", x.same(1, 0), 1);
        due("22 with itself", x.same(0, 0), 1);
        x.less(2, Y, X);
        due("22 not the same, as many kinds", x.same(0, 2), 0);
        x.not(2, 0);
        due("22 the very opposite", x.same(0, 2), 0);
        x.equal(2, X, Y);
        due("22 not as many kinds", x.same(0, 2), 0);
        for (int bad : NOT_CLAIMS) {
            due("22 no such i", x.same(bad, 5), UNKNOWN);
            due("22 no such j", x.same(5, bad), UNKNOWN);
        }
        due("22 i is not there", x.same(5, 0), STATE);
        due("22 j is not there", x.same(0, 5), STATE);
        due("22 neither", x.same(5, 5), STATE);
    }

    private static void drop() {
        DigitClaims x = new DigitClaims();
        x.sum(0, X, Y);
        x.equal(1, X, Y);
        due("23 drop", x.drop(0), 3);
        due("23 it is no more", x.drop(0), STATE);
        due("23 holds", x.holds(0, 0, 0, 0), STATE);
        due("23 kinds", x.kinds(0), STATE);
        due("23 the others stay", x.kinds(1), 2);
        due("23 many", x.many(0), 1);
        due("23 it can come again", x.not(0, 1), 2);
        for (int bad : NOT_CLAIMS) {
            due("23 no such claim", x.drop(bad), UNKNOWN);
        }
    }

    private static void many() {
        DigitClaims x = new DigitClaims();
        for (int k = 0; k < 6; k++) {
            x.is(k, X, 1 << k);
            due("24 claims", x.many(0), k + 1);
        }
        due("24 kinds", x.many(1), 3 + 4 + 5 + 6 + 7 + 8);
        x.equal(0, X, Y);
        due("24 in place of what was", x.many(0), 6);
        due("24 kinds then", x.many(1), 2 + 4 + 5 + 6 + 7 + 8);
        x.drop(3);
        due("24 dropped", x.many(0), 5);
        due("24 kinds without it", x.many(1), 2 + 4 + 5 + 7 + 8);
        for (int what : new int[] {-1, 2, Integer.MIN_VALUE, Integer.MAX_VALUE}) {
            due("24 what", x.many(what), OUTSIDE);
        }
    }
}
