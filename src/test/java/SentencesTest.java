/**
 * The sentences of the document that name a boundary case beside the bounds of the calls' lines (BoundsTest), the order
 * of the refusals (OrderTest) and the limits (LimitsTest): each has a test of its own, which begins with its words.
 */
public final class SentencesTest {
    private static final int X = 0, Y = 1, Z = 2;
    private static final int STATE = -3, NONE = -9;
    private static final int BILLION = 1000000000;
    private static final Due DUE = new Due();
    private static final Twins TWINS = new Twins(DUE);

    private static void due(String what, long got, long want) {
        DUE.due(what, got, want);
    }

    public static void main(String[] args) {
        usedForAtMost512Calls();
        constants();
        lostStandsForAnyOfThese();
        setsAreToldAsBits();
        noOverWhereTheLineNamesNone();
        numbersFromZeroOn();
        numbersWithoutEnd();
        thereIsNoneAtFirst();
        kindsForEachNFromZeroOn();
        kindsOfNoneAndAll();
        dependsOfSomeTwoThrees();
        rowAtFirst();
        rowOfZero();
        rowHighestFirst();
        placeZeroStaysByZero();
        someWholeNumber();
        allWithEach();
        inPlaceOfWhatWas();
        inPlaceOfItself();
        behindEachOther();
        claimsStayAsTheyAre();
        asTheRowIsNow();
        iOrJIsNotThere();
        eitherOrBoth();
        belowTwoToTheN();
        leastOrNone();
        sameThrees();
        aClaimIsNoMore();
        howManyThereAre();
        DUE.end();
    }

    /** "An object is used for at most 512 calls after it has been made" */
    private static void usedForAtMost512Calls() {
        DigitClaims x = new DigitClaims();
        x.place(0, 0, 1, 0);
        x.place(1, 1, 0, 1);
        for (int call = 2; call < 508; call++) {
            switch (call % 8) {
                case 0: x.sum(0, X, Y); break;
                case 1: x.tells(1, call % 3, 1); break;
                case 2: x.both(2, 0, 1); break;
                case 3: x.some(3, 2, call % 3); break;
                case 4: x.least(2, call % 3); break;
                case 5: x.is(4, X, call); break;
                case 6: x.either(5, 4, 0); break;
                default: x.all(3, 5, Z); break;
            }
        }
        due("512: call 509", x.sum(0, X, Y), 3);
        due("512: call 510", x.is(1, Y, 500), 11);
        // No digit of 500, or 1 to 9 of them, and x and y behind z by 0 or by 1, which the last two digits 0 can't mend.
        due("512: call 511", x.both(2, 0, 1), 10 + 7 + 1);
        due("512: call 512", x.least(2, Z), 500);
    }

    /** "NONE is -9" and the numbers of the face. */
    private static void constants() {
        due("UNKNOWN", DigitClaims.UNKNOWN, -1);
        due("OUTSIDE", DigitClaims.OUTSIDE, -2);
        due("STATE", DigitClaims.STATE, -3);
        due("OVER", DigitClaims.OVER, -5);
        due("SPENT", DigitClaims.SPENT, -6);
        due("NONE", DigitClaims.NONE, -9);
        due("LOST", DigitClaims.LOST, -9223372036854775808L);
    }

    /** "LOST (where a long is told) stands for any of these" */
    private static void lostStandsForAnyOfThese() {
        for (String call : new String[] {"below 6 0", "below -1 0", "below 0 13", "below 0 -1", "below 1 0"}) {
            TWINS.refused("LOST", Long.MIN_VALUE, "less 0 0 1", call);
        }
    }

    /** "Sets are told as bits (bit k for number k)" */
    private static void setsAreToldAsBits() {
        DigitClaims x = new DigitClaims();
        for (int u = 0; u < 3; u++) {
            x.is(0, u, 6);
            due("bit " + u, x.depends(0), 1 << u);
        }
        x.equal(0, X, Y);
        due("bits 0, 1", x.depends(0), 3);
        x.equal(0, X, Z);
        due("bits 0, 2", x.depends(0), 5);
        x.equal(0, Y, Z);
        due("bits 1, 2", x.depends(0), 6);
        x.sum(0, Y, Z);
        due("bits 0, 1, 2", x.depends(0), 7);
        x.tells(0, Y, 0);
        due("no bit", x.depends(0), 0);
    }

    /** OVER stands in the line of least alone: what below tells may be above 1000000000. */
    private static void noOverWhereTheLineNamesNone() {
        DigitClaims x = new DigitClaims();
        x.tells(0, X, 0);
        due("below, just under 1000000000", x.below(0, 9), 134217728L);
        due("below, above it", x.below(0, 10), 1073741824L);
        due("below, above an int", x.below(0, 11), 8589934592L);
        due("below, the most", x.below(0, 12), 68719476736L);
    }

    /** "NUMBERS 0, 1, 2 (whole numbers from 0 on ..)" */
    private static void numbersFromZeroOn() {
        DigitClaims x = new DigitClaims();
        x.less(0, X, Y);
        due("some number is less than y", x.some(1, 0, X), 2);
        due("none is less than 0", x.holds(1, 0, 0, 0), 0);
        due("one is less than 1", x.holds(1, 0, 1, 0), 1);
        x.sum(0, X, Y);
        due("some x and y are z", x.some(1, 0, X), 3);
        due("no y above z", x.holds(1, 0, 8, 7), 0);
        due("y is z, x is 0", x.holds(1, 9, 7, 7), 1);
        due("0 and 0 are 0", x.holds(0, 0, 0, 0), 1);
        due("the least x", x.least(0, X), 0);
    }

    /** ".. (whole numbers from 0 on, without end)" */
    private static void numbersWithoutEnd() {
        DigitClaims x = new DigitClaims();
        x.less(0, X, Y);
        due("above each number there is one", x.some(1, 0, Y), 1);
        due("above the greatest that can be asked, too", x.holds(1, BILLION, 0, 0), 1);
        due("no number is above each", x.all(1, 0, X), 1);
        due("not even the greatest that can be asked", x.holds(1, 0, BILLION, 0), 0);
        x.sum(0, X, Y);
        due("each two have a sum", x.some(1, 0, Z), 1);
        due("the greatest two, too", x.holds(1, BILLION, BILLION, 0), 1);
        due("their sum is no small number", x.holds(0, BILLION, BILLION, 0), 0);
        due("nor what 30 digits leave of it", x.holds(0, BILLION, BILLION, 2000000000 - (1 << 30)), 0);
    }

    /** "CLAIMS 0 .. 5; there is none at first", "STATE, of each: it is not there" */
    private static void thereIsNoneAtFirst() {
        for (int k = 0; k < 6; k++) {
            for (String call : new String[] {"both 0 %d %d", "either 0 %d %d", "not 0 %d", "swap 0 %d 0 1", "some 0 %d 0",
                "all 0 %d 0", "holds %d 0 0 0", "depends %d", "kinds %d", "least %d 0", "same %d %d", "drop %d"}) {
                TWINS.refused("there is none at first", STATE, "", String.format(call, k, k));
            }
            TWINS.refused("there is none at first", DigitClaims.LOST, "", "below " + k + " 0");
            TWINS.taken("CLAIMS 0 .. 5", 2, "", "equal " + k + " 0 1");
        }
        TWINS.taken("there is none at first", 0, "", "many 0");
        TWINS.taken("there is none at first", 0, "", "many 1");
    }

    /** "threes (a, b, c) are of one KIND for a CLAIM, if for each n from 0 on .." */
    private static void kindsForEachNFromZeroOn() {
        DigitClaims x = new DigitClaims();
        // 1 and 2 are told apart by nothing but n = 0.
        due("x is 1", x.is(0, X, 1), 3);
        // 0 and 1 are told apart, for n = 0 and for each other.
        due("x is 0", x.is(0, X, 0), 2);
        // 1 and 3 are told apart by n = 19 alone.
        due("x is 2 to the 19", x.is(0, X, 524288), 22);
        due("x is 2 to the 19 less 1", x.is(0, X, 524287), 21);
        // Only what digits come behind counts, not how many came ahead.
        due("x is y", x.equal(0, X, Y), 2);
        // Beginnings that no ending mends are of one KIND: x ahead of y, and x behind by more than a digit can mend.
        due("x and y are z", x.sum(0, X, Y), 3);
    }

    private static void kindsOfNoneAndAll() {
        DigitClaims x = new DigitClaims();
        x.equal(0, X, Y);
        x.not(1, 0);
        due("of none: 1 KIND", x.both(2, 0, 1), 1);
        due("it holds of none", x.below(2, 12), 0);
        due("of all: 1 KIND", x.either(3, 0, 1), 1);
        due("it holds of all", x.below(3, 12), 1L << 36);
        due("they are not the same", x.same(2, 3), 0);
        due("not none", x.not(4, 2), 1);
        due("is all", x.same(4, 3), 1);
        due("some of none", x.some(4, 2, X), 1);
        due("is none", x.same(4, 2), 1);
        due("all of all", x.all(4, 3, Y), 1);
        due("is all, too", x.same(4, 3), 1);
        due("none swapped", x.swap(4, 2, X, Z), 1);
        due("is none, too", x.same(4, 2), 1);
        due("none depends on nothing", x.depends(2), 0);
        due("all depends on nothing", x.depends(3), 0);
    }

    /** "if of some two threes that differ in that alone it HOLDS of just one" */
    private static void dependsOfSomeTwoThrees() {
        DigitClaims x = new DigitClaims();
        x.is(0, X, 1000000);
        x.is(1, Y, 1000000);
        x.both(0, 0, 1);
        due("of no two that differ in z alone", x.depends(0), 3);
        x.is(1, Z, 1000000);
        x.both(0, 0, 1);
        due("of one three alone", x.depends(0), 7);
        x.not(0, 0);
        due("of all but one three", x.depends(0), 7);
        x.is(0, X, 0);
        x.equal(1, X, Y);
        x.both(0, 0, 1);
        due("x and y are 0", x.depends(0), 3);
        x.is(1, Z, 5);
        x.not(2, 1);
        x.both(3, 0, 1);
        x.both(4, 0, 2);
        x.either(5, 3, 4);
        due("with z 5 and with z not 5", x.depends(5), 3);
        due("each by itself depends on z", x.depends(3) * 8 + x.depends(4), 7 * 8 + 7);
    }

    /** "(at first: all to 0, all 0)" */
    private static void rowAtFirst() {
        DigitClaims x = new DigitClaims();
        for (int p = 0; p < 5; p++) {
            due("at first, by 0", x.ofPlace(p, 0), 0);
            due("at first, by 1", x.ofPlace(p, 1), 0);
            due("at first, told", x.ofPlace(p, 2), 0);
        }
        for (int number : new int[] {0, 1, 2, 3, 999999999, BILLION}) {
            due("at first, row of " + number, x.row(number), 0);
        }
        due("at first, each tells 0", x.tells(0, X, 0), 1);
        due("at first, of all", x.below(0, 1), 8);
        due("at first, none tells 1", x.tells(0, X, 1), 1);
        due("at first, of none", x.below(0, 12), 0);
        due("at first, none tells 2", x.tells(0, X, 2), 1);
        due("at first, of none, too", x.below(0, 12), 0);
        due("at first, all are alike", x.alike(0, X, Z), 1);
        due("at first, of all, too", x.below(0, 12), 1L << 36);
    }

    /** "(of 0: that of PLACE 0)" */
    private static void rowOfZero() {
        DigitClaims x = new DigitClaims();
        x.place(0, 0, 1, 2);
        x.place(1, 1, 1, 1);
        due("row of 0", x.row(0), 2);
        due("row of 1", x.row(1), 1);
        due("0 alone tells 2", x.tells(0, Y, 2), 2);
        due("of 0", x.holds(0, 7, 0, 7), 1);
        due("of 1", x.holds(0, 7, 1, 7), 0);
        due("alike", x.alike(1, X, Y), 4);
        due("0 and 0 are alike", x.holds(1, 0, 0, 0), 1);
        due("0 and 1 are not", x.holds(1, 0, 1, 0), 0);
        due("1 and 0 are not", x.holds(1, 1, 0, 0), 0);
        due("1 and 6 are", x.holds(1, 1, 6, 0), 1);
    }

    /** "by its binary digits, the highest first" */
    private static void rowHighestFirst() {
        DigitClaims x = new DigitClaims();
        x.place(0, 0, 1, 0);
        x.place(1, 2, 3, 0);
        x.place(2, 2, 2, 1);
        x.place(3, 3, 3, 2);
        due("row of 1", x.row(1), 0);
        due("row of 10", x.row(2), 1);
        due("row of 11", x.row(3), 2);
        due("row of 101", x.row(5), 1);
        due("row of 110", x.row(6), 2);
        due("row of 2 to the 29", x.row(1 << 29), 1);
        due("row of 1000000000", x.row(BILLION), 2);
        x.tells(0, Z, 1);
        due("tells of 101", x.holds(0, 6, 6, 5), 1);
        due("tells of 110", x.holds(0, 5, 5, 6), 0);
        due("tells of 2 to the 29", x.holds(0, 0, 0, 1 << 29), 1);
    }

    /** "PLACE 0 always GOES ON by 0 to itself", "STATE: PLACE 0 by 0 to another one" */
    private static void placeZeroStaysByZero() {
        String run = "place 0 0 3 1; place 3 1 4 2; tells 0 0 2";
        for (int zero = 1; zero < 5; zero++) {
            TWINS.refused("PLACE 0 by 0", STATE, run, "place 0 " + zero + " 0 0");
            TWINS.taken("PLACE 1 by 0", 1, run, "place 1 " + zero + " 0 0");
            TWINS.taken("PLACE 0 by 1", 1, run, "place 0 0 " + zero + " 0");
        }
        TWINS.taken("PLACE 0 by 0 to itself", 1, run, "place 0 0 0 0");
        TWINS.taken("PLACE 4 by 0 to itself", 1, run, "place 4 4 4 2");
        TWINS.taken("PLACE 4 by 0 to 0", 1, run, "place 4 0 0 2");
    }

    /** "SOME by a NUMBER: it HOLDS of a three, if the other one does of it with some whole number in place .." */
    private static void someWholeNumber() {
        DigitClaims x = new DigitClaims();
        x.is(0, X, 0);
        due("only 0 does", x.some(1, 0, X), 1);
        due("with 0, whatever x is", x.holds(1, 5, 0, 0), 1);
        x.is(0, X, 1000000);
        due("only 1000000 does", x.some(1, 0, X), 1);
        due("with more digits than there are", x.holds(1, 0, 0, 0), 1);
        x.equal(2, X, Y);
        x.both(0, 0, 2);
        due("1000000 and y", x.some(1, 0, X), 22);
        due("of 1000000", x.holds(1, 3, 1000000, 4), 1);
        due("of 999999", x.holds(1, 1000000, 999999, 4), 0);
        x.less(0, X, X + 1);
        x.less(1, Y, Z);
        x.both(0, 0, 1);
        due("some number between", x.some(1, 0, Y), 4);
        due("none between 4 and 4", x.holds(1, 4, 4, 4), 0);
        due("none between 4 and 5", x.holds(1, 4, 4, 5), 0);
        due("one between 4 and 6", x.holds(1, 4, 0, 6), 1);
        due("none between 7 and 8", x.holds(1, 7, 7, 8), 0);
        due("one between 7 and 9", x.holds(1, 7, 7, 9), 1);
        due("none between 6 and 4", x.holds(1, 6, 5, 4), 0);
    }

    /** "ALL: if with each" */
    private static void allWithEach() {
        DigitClaims x = new DigitClaims();
        x.is(0, X, 0);
        x.not(0, 0);
        due("all but 0", x.all(1, 0, X), 1);
        due("are not all", x.holds(1, 5, 0, 0), 0);
        x.is(0, X, 1000000);
        x.not(0, 0);
        due("all but 1000000", x.all(1, 0, X), 1);
        due("are not all, either", x.holds(1, 0, 0, 0), 0);
        x.equal(2, X, Y);
        x.not(2, 2);
        x.either(0, 0, 2);
        due("all but 1000000, if y is", x.all(1, 0, X), 22);
        due("not of 1000000", x.holds(1, 3, 1000000, 4), 0);
        due("of 999999", x.holds(1, 1000000, 999999, 4), 1);
        x.equal(0, Y, Z);
        due("a number that counts not", x.all(1, 0, X), 2);
        due("stays away", x.same(0, 1), 1);
    }

    /** "claims that come (in place of what was): how many KINDS the CLAIM has" */
    private static void inPlaceOfWhatWas() {
        String run = "place 0 0 1 0; place 1 1 0 1; less 0 0 1; sum 1 0 1; is 2 2 77; equal 3 0 2; is 5 0 1000000";
        String[] calls = {"equal %d 0 1", "less %d 1 2", "sum %d 0 1", "is %d 1 3", "tells %d 1 1", "alike %d 0 2",
            "both %d 0 1", "either %d 0 3", "not %d 1", "swap %d 0 0 2", "some %d 1 0", "all %d 0 2"};
        int[] kinds = {2, 3, 3, 4, 2, 2, 5, 5, 3, 3, 3, 3};
        for (int at = 0; at < calls.length; at++) {
            TWINS.taken("in place of what was", kinds[at], run, String.format(calls[at], 5));
            TWINS.taken("in a place where none was", kinds[at], run, String.format(calls[at], 4));
        }
    }

    /** A claim may come in the very place of one that it comes from. */
    private static void inPlaceOfItself() {
        String run = "less 0 0 1; sum 1 0 1";
        TWINS.taken("in place of i", 5, run, "both 0 0 1");
        TWINS.taken("in place of j", 5, run, "both 1 0 1");
        TWINS.taken("in place of both", 3, run, "both 0 0 0");
        TWINS.taken("in place of i", 7, run, "either 0 0 1");
        TWINS.taken("in place of j", 7, run, "either 1 0 1");
        TWINS.taken("in place of both", 3, run, "either 0 0 0");
        TWINS.taken("in place of i", 3, run, "not 0 0");
        TWINS.taken("in place of i", 3, run, "swap 0 0 0 1");
        TWINS.taken("in place of i", 2, run, "some 0 0 0");
        TWINS.taken("in place of i", 1, run, "all 0 0 0");
    }

    /** What a claim says is not changed by the claim that came just ahead of it. */
    private static void behindEachOther() {
        String run = "place 0 0 1 0; place 1 1 2 1; place 2 1 0 2; less 0 0 1; sum 1 0 1";
        String[] calls = {"equal 5 0 1", "less 5 1 2", "sum 5 2 1", "is 5 1 0", "is 5 1 1", "is 5 1 2", "is 5 1 5",
            "is 5 1 1000000", "tells 5 1 1", "alike 5 0 2", "both 5 0 1", "either 5 0 1", "not 5 1", "swap 5 1 0 2",
            "some 5 1 0", "all 5 0 2"};
        for (String call : calls) {
            Oracle oracle = new Oracle();
            for (int[] c : Calls.run(run)) {
                Calls.of(oracle, c);
            }
            long kinds = Calls.of(oracle, Calls.call(call));
            for (String ahead : calls) {
                TWINS.taken("behind " + ahead, kinds, run + "; " + ahead, call);
            }
        }
    }

    /** "(CLAIMS that came stay as they are.)" */
    private static void claimsStayAsTheyAre() {
        DigitClaims x = new DigitClaims();
        x.place(0, 0, 1, 0);
        x.place(1, 1, 0, 1);
        x.tells(0, X, 1);
        x.alike(1, X, Y);
        x.some(2, 1, X);
        x.tells(3, X, 1);
        x.alike(4, X, Y);
        x.place(0, 0, 0, 2);
        x.place(1, 0, 0, 2);
        due("the row has changed", x.row(7), 2);
        due("tells stays", x.same(0, 3), 1);
        due("tells stays, of 7", x.holds(0, 7, 0, 0), 1);
        due("tells stays, of 0", x.holds(0, 0, 0, 0), 0);
        due("alike stays", x.same(1, 4), 1);
        due("alike stays, of 7 and 3", x.holds(1, 7, 3, 0), 0);
        due("kinds stay", x.kinds(0) + 10 * x.kinds(1) + 100 * x.kinds(2), 122);
        due("what comes from it goes by the old row", x.not(5, 0), 2);
        due("of 3", x.holds(5, 3, 0, 0), 1);
    }

    /** "as THE ROW is now" */
    private static void asTheRowIsNow() {
        DigitClaims x = new DigitClaims();
        x.place(0, 0, 1, 0);
        x.place(1, 1, 0, 1);
        x.tells(0, X, 1);
        x.alike(1, X, Y);
        x.place(0, 0, 1, 1);
        x.place(1, 1, 0, 0);
        due("tells", x.tells(2, X, 1), 2);
        x.not(3, 0);
        due("just where it did not", x.same(2, 3), 1);
        due("alike", x.alike(2, X, Y), 2);
        due("just where it was", x.same(2, 1), 1);
        x.place(1, 1, 1, 2);
        due("tells of 3", x.tells(2, X, 2) * 10 + x.holds(2, 3, 0, 0), 21);
        due("tells of 0", x.holds(2, 0, 0, 0), 0);
        due("alike of 3 and 5", x.alike(2, X, Y) * 10 + x.holds(2, 3, 5, 0), 41);
    }

    /** "STATE: i or j is not there": each alone, both; and k need not be there. */
    private static void iOrJIsNotThere() {
        String run = "less 0 0 1; sum 2 0 1";
        for (String two : new String[] {"both", "either"}) {
            for (String those : new String[] {"0 0 1", "0 1 0", "0 1 1", "1 1 0", "1 0 1", "5 4 3", "0 5 5", "2 0 3"}) {
                TWINS.refused("i or j is not there", STATE, run, two + " " + those);
            }
        }
        TWINS.taken("k need not be there", 5, run, "both 5 0 2");
        TWINS.taken("k need not be there", 7, run, "either 5 0 2");
        for (String one : new String[] {"not 0 1", "not 1 1", "swap 0 1 0 1", "swap 1 1 0 1", "some 0 1 0", "some 1 1 0",
            "all 0 1 0", "all 1 1 0", "same 0 1", "same 1 0", "same 1 1", "drop 1", "kinds 1", "depends 1", "least 1 0"}) {
            TWINS.refused("it is not there", STATE, run, one);
        }
    }

    /** "EITHER of i and j (or both)" */
    private static void eitherOrBoth() {
        DigitClaims x = new DigitClaims();
        x.is(0, X, 2);
        x.is(1, Y, 3);
        x.both(2, 0, 1);
        x.either(3, 0, 1);
        due("both", x.holds(2, 2, 3, 0) * 10 + x.holds(3, 2, 3, 0), 11);
        due("i alone", x.holds(2, 2, 2, 0) * 10 + x.holds(3, 2, 2, 0), 1);
        due("j alone", x.holds(2, 3, 3, 0) * 10 + x.holds(3, 3, 3, 0), 1);
        due("neither", x.holds(2, 3, 2, 0) * 10 + x.holds(3, 3, 2, 0), 0);
        due("how many", x.below(2, 2) * 100 + x.below(3, 2), 4 * 100 + 16 + 16 - 4);
    }

    /** "Of how many threes, each number below 2 to the n (0 .. 12)" */
    private static void belowTwoToTheN() {
        DigitClaims x = new DigitClaims();
        x.is(0, X, 0);
        x.is(1, X, 4095);
        x.is(2, X, 4096);
        x.is(3, X, 1);
        due("n 0: 0 alone", x.below(0, 0), 1);
        due("n 0: not 1", x.below(3, 0), 0);
        due("n 1: 1", x.below(3, 1), 4);
        due("n 11: not 4095", x.below(1, 11), 0);
        due("n 12: 4095", x.below(1, 12), 1L << 24);
        due("n 12: not 4096", x.below(2, 12), 0);
        due("n 12: 0", x.below(0, 12), 1L << 24);
        x.is(4, Z, 4095);
        x.both(1, 1, 4);
        due("n 12: each number", x.below(1, 12), 4096);
    }

    /** "The least that NUMBER u is in a three of which it HOLDS; NONE: it HOLDS of none." */
    private static void leastOrNone() {
        DigitClaims x = new DigitClaims();
        x.is(0, X, 0);
        due("of 0 alone", x.least(0, X), 0);
        x.is(0, X, 1000000);
        due("of 1000000 alone", x.least(0, X), 1000000);
        due("of each y", x.least(0, Y), 0);
        x.less(1, X, Y);
        x.less(2, Y, Z);
        x.both(1, 1, 2);
        due("x below y below z", x.least(1, X), 0);
        due("y", x.least(1, Y), 1);
        due("z", x.least(1, Z), 2);
        x.is(2, X, 13);
        // Up to 2 digits of 13: 4 each, as y is x so far or not, z is y or not; then x is y no more, then it is at an end.
        due("x is 13", x.both(1, 1, 2), 3 * 4 + 2 + 1 + 1);
        due("x then", x.least(1, X), 13);
        due("y then", x.least(1, Y), 14);
        due("z then", x.least(1, Z), 15);
        x.not(2, 0);
        x.both(0, 0, 2);
        for (int u = 0; u < 3; u++) {
            due("of none", x.least(0, u), NONE);
        }
        x.not(0, 0);
        for (int u = 0; u < 3; u++) {
            due("of all", x.least(0, u), 0);
        }
        leastIsOfFewestDigits();
    }

    private static void leastIsOfFewestDigits() {
        DigitClaims x = new DigitClaims();
        x.is(0, Z, 12);
        x.is(1, Z, 9);
        x.either(0, 0, 1);
        due("9 or 12", x.least(0, Z), 9);
        x.is(1, Z, 7);
        x.either(0, 0, 1);
        due("9, 12 or 7", x.least(0, Z), 7);
        x.is(1, Z, 8);
        x.either(0, 0, 1);
        due("9, 12, 7 or 8", x.least(0, Z), 7);
    }

    /** "Whether two CLAIMS HOLD of the same threes": however they came, and if but one three is not the same. */
    private static void sameThrees() {
        DigitClaims x = new DigitClaims();
        x.less(0, X, Y);
        x.less(1, Y, X);
        x.not(1, 1);
        due("less, less or the same", x.same(0, 1), 0);
        x.equal(2, X, Y);
        x.not(2, 2);
        x.both(1, 1, 2);
        due("less, and less in a roundabout way", x.same(0, 1), 1);
        x.is(2, X, 999999);
        x.is(3, Y, 1000000);
        x.both(2, 2, 3);
        x.is(3, Z, 0);
        x.both(2, 2, 3);
        x.not(2, 2);
        x.both(1, 0, 2);
        due("but for one three", x.same(0, 1), 0);
        due("but for one three, turned", x.same(1, 0), 0);
        x.not(2, 2);
        x.either(1, 1, 2);
        due("with that three again", x.same(0, 1), 1);
        due("with itself", x.same(1, 1), 1);
        x.is(2, X, 9);
        x.is(3, X, 10);
        due("as many kinds, other threes", x.same(2, 3), 0);
        x.is(3, Y, 9);
        due("as many kinds, another number", x.same(2, 3), 0);
    }

    /** "A CLAIM is no more: how many KINDS it had." */
    private static void aClaimIsNoMore() {
        String run = "less 0 0 1; sum 5 0 1; is 3 2 77";
        TWINS.taken("the first", 3, run, "drop 0");
        TWINS.taken("the last", 3, run, "drop 5");
        TWINS.taken("another", 9, run, "drop 3");
        for (String call : new String[] {"drop 3", "kinds 3", "depends 3", "holds 3 0 0 77", "least 3 2", "same 3 0",
            "same 0 3", "not 1 3", "both 1 3 0", "either 1 0 3", "swap 1 3 0 1", "some 1 3 0", "all 1 3 0"}) {
            TWINS.refused("it is no more", STATE, run + "; drop 3", call);
        }
        TWINS.refused("it is no more", DigitClaims.LOST, run + "; drop 3", "below 3 0");
        TWINS.taken("it can come again", 3, run + "; drop 3", "not 3 0");
        TWINS.taken("what came from it stays", 9, run + "; not 4 3; drop 3", "kinds 4");
    }

    /** "How many: 0 CLAIMS there are, 1 KINDS of all of them together" */
    private static void howManyThereAre() {
        String six = "equal 0 0 1; less 1 0 1; sum 2 0 1; is 3 0 1000000; is 4 0 0; tells 5 0 0";
        TWINS.taken("none", 0, "", "many 0");
        TWINS.taken("none", 0, "", "many 1");
        TWINS.taken("one", 1, "tells 5 0 0", "many 0");
        TWINS.taken("one of one KIND", 1, "tells 5 0 0", "many 1");
        TWINS.taken("all six", 6, six, "many 0");
        TWINS.taken("all six", 2 + 3 + 3 + 22 + 2 + 1, six, "many 1");
        TWINS.taken("one dropped", 5, six + "; drop 3", "many 0");
        TWINS.taken("one dropped", 2 + 3 + 3 + 2 + 1, six + "; drop 3", "many 1");
        TWINS.taken("one in place of another", 6, six + "; is 0 0 3", "many 0");
        TWINS.taken("one in place of another", 4 + 3 + 3 + 22 + 2 + 1, six + "; is 0 0 3", "many 1");
    }
}
