/** A call as a row of numbers: what is called, then what it is given. It can be made of the class and of the oracle. */
final class Calls {
    static final String[] NAMES = {"place", "ofPlace", "row", "equal", "less", "sum", "is", "tells", "alike", "both",
        "either", "not", "swap", "some", "all", "holds", "depends", "kinds", "below", "least", "same", "drop", "many"};
    static final int[] ARGUMENTS = {4, 2, 1, 3, 3, 3, 3, 3, 3, 3, 3, 2, 4, 3, 3, 4, 1, 1, 2, 2, 2, 1, 1};

    private Calls() { }

    static long of(DigitClaims x, int... c) {
        switch (c[0]) {
            case 0: return x.place(c[1], c[2], c[3], c[4]);
            case 1: return x.ofPlace(c[1], c[2]);
            case 2: return x.row(c[1]);
            case 3: return x.equal(c[1], c[2], c[3]);
            case 4: return x.less(c[1], c[2], c[3]);
            case 5: return x.sum(c[1], c[2], c[3]);
            case 6: return x.is(c[1], c[2], c[3]);
            case 7: return x.tells(c[1], c[2], c[3]);
            case 8: return x.alike(c[1], c[2], c[3]);
            case 9: return x.both(c[1], c[2], c[3]);
            case 10: return x.either(c[1], c[2], c[3]);
            case 11: return x.not(c[1], c[2]);
            case 12: return x.swap(c[1], c[2], c[3], c[4]);
            case 13: return x.some(c[1], c[2], c[3]);
            case 14: return x.all(c[1], c[2], c[3]);
            case 15: return x.holds(c[1], c[2], c[3], c[4]);
            case 16: return x.depends(c[1]);
            case 17: return x.kinds(c[1]);
            case 18: return x.below(c[1], c[2]);
            case 19: return x.least(c[1], c[2]);
            case 20: return x.same(c[1], c[2]);
            case 21: return x.drop(c[1]);
            default: return x.many(c[1]);
        }
    }

    static long of(Oracle x, int... c) {
        switch (c[0]) {
            case 0: return x.place(c[1], c[2], c[3], c[4]);
            case 1: return x.ofPlace(c[1], c[2]);
            case 2: return x.row(c[1]);
            case 3: return x.equal(c[1], c[2], c[3]);
            case 4: return x.less(c[1], c[2], c[3]);
            case 5: return x.sum(c[1], c[2], c[3]);
            case 6: return x.is(c[1], c[2], c[3]);
            case 7: return x.tells(c[1], c[2], c[3]);
            case 8: return x.alike(c[1], c[2], c[3]);
            case 9: return x.both(c[1], c[2], c[3]);
            case 10: return x.either(c[1], c[2], c[3]);
            case 11: return x.not(c[1], c[2]);
            case 12: return x.swap(c[1], c[2], c[3], c[4]);
            case 13: return x.some(c[1], c[2], c[3]);
            case 14: return x.all(c[1], c[2], c[3]);
            case 15: return x.holds(c[1], c[2], c[3], c[4]);
            case 16: return x.depends(c[1]);
            case 17: return x.kinds(c[1]);
            case 18: return x.below(c[1], c[2]);
            case 19: return x.least(c[1], c[2]);
            case 20: return x.same(c[1], c[2]);
            case 21: return x.drop(c[1]);
            default: return x.many(c[1]);
        }
    }

    static String text(int... c) {
        StringBuilder out = new StringBuilder(NAMES[c[0]]).append('(');
        for (int at = 1; at <= ARGUMENTS[c[0]]; at++) {
            out.append(at > 1 ? ", " : "").append(c[at]);
        }
        return out.append(')').toString();
    }
}
