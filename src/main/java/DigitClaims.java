import java.util.Arrays;

/** Claims about three whole numbers, each held as the least machine that reads their binary digits. */
public final class DigitClaims {
    public static final int UNKNOWN = -1, OUTSIDE = -2, STATE = -3, OVER = -5, SPENT = -6, NONE = -9;
    public static final long LOST = Long.MIN_VALUE;

    private static final int CLAIMS = 6;
    private static final int NUMBERS = 3;
    private static final int PLACES = 5;
    private static final int TELLINGS = 3;
    private static final int MOST_KINDS = 60;
    private static final int MOST_SETS = 300;
    private static final int MOST_STATES = MOST_KINDS * MOST_KINDS;
    private static final int MOST_TOLD = 1000000000;
    private static final int MOST_FIXED = 1000000;
    private static final int MOST_DIGITS_BELOW = 12;
    // MOST_TOLD is below 2 to the 30, MOST_FIXED below 2 to the 20.
    private static final int DIGITS_TOLD = 30;
    private static final int DIGITS_FIXED = 20;
    // A column is one digit of each NUMBER, read at once: its bit k is the digit of NUMBER k.
    private static final int COLUMNS = 8;

    private final RowMachine theRow;
    private final Claim[] claims;
    private final Claim spare;
    private final PlainClaims plain;
    private final MadeClaims made;
    private final SaidClaims said;
    private final Teller teller;

    public DigitClaims() {
        theRow = new RowMachine();
        claims = new Claim[CLAIMS];
        for (int k = 0; k < CLAIMS; k++) {
            claims[k] = new Claim();
        }
        spare = new Claim();
        PairNumbers pairs = new PairNumbers();
        Draft draft = new Draft(pairs);
        plain = new PlainClaims(draft);
        made = new MadeClaims(draft, pairs);
        said = new SaidClaims(draft);
        teller = new Teller();
    }

    // ---- 1 the row

    public int place(int p, int zero, int one, int v) {
        if (!isPlace(p) || !isPlace(zero) || !isPlace(one)) {
            return UNKNOWN;
        }
        if (!isTelling(v)) {
            return OUTSIDE;
        }
        if (p == 0 && zero != 0) {
            return STATE;
        }
        theRow.put(p, zero, one, v);
        return 1;
    }

    public int ofPlace(int p, int what) {
        if (!isPlace(p)) {
            return UNKNOWN;
        }
        if (what < 0 || what > 2) {
            return OUTSIDE;
        }
        return what == 2 ? theRow.toldAt(p) : theRow.goesOn(p, what);
    }

    public int row(int number) {
        if (!isTold(number)) {
            return OUTSIDE;
        }
        return theRow.toldOf(number);
    }

    // ---- 2 claims that come

    public int equal(int k, int u, int v) {
        if (!isClaim(k) || !areTwoNumbers(u, v)) {
            return UNKNOWN;
        }
        return plain.makeEqual(claims[k], u, v);
    }

    public int less(int k, int u, int v) {
        if (!isClaim(k) || !areTwoNumbers(u, v)) {
            return UNKNOWN;
        }
        return plain.makeLess(claims[k], u, v);
    }

    public int sum(int k, int u, int v) {
        if (!isClaim(k) || !areTwoNumbers(u, v)) {
            return UNKNOWN;
        }
        return plain.makeSum(claims[k], u, v);
    }

    public int is(int k, int u, int c) {
        if (!isClaim(k) || !isNumber(u)) {
            return UNKNOWN;
        }
        if (c < 0 || c > MOST_FIXED) {
            return OUTSIDE;
        }
        return plain.makeFixed(claims[k], u, c);
    }

    public int tells(int k, int u, int v) {
        if (!isClaim(k) || !isNumber(u)) {
            return UNKNOWN;
        }
        if (!isTelling(v)) {
            return OUTSIDE;
        }
        return plain.makeTells(claims[k], theRow, u, v);
    }

    public int alike(int k, int u, int v) {
        if (!isClaim(k) || !areTwoNumbers(u, v)) {
            return UNKNOWN;
        }
        return plain.makeAlike(claims[k], theRow, u, v);
    }

    public int both(int k, int i, int j) {
        return joinTwo(k, i, j, true);
    }

    public int either(int k, int i, int j) {
        return joinTwo(k, i, j, false);
    }

    public int not(int k, int i) {
        if (!isClaim(k) || !isClaim(i)) {
            return UNKNOWN;
        }
        if (!isThere(i)) {
            return STATE;
        }
        claims[k].becomeNot(claims[i]);
        return claims[k].size();
    }

    public int swap(int k, int i, int u, int v) {
        if (!isClaim(k) || !isClaim(i) || !areTwoNumbers(u, v)) {
            return UNKNOWN;
        }
        if (!isThere(i)) {
            return STATE;
        }
        return made.exchange(claims[k], claims[i], u, v);
    }

    public int some(int k, int i, int u) {
        return sayOf(k, i, u, false);
    }

    public int all(int k, int i, int u) {
        return sayOf(k, i, u, true);
    }

    private int joinTwo(int k, int i, int j, boolean needsBoth) {
        if (!isClaim(k) || !isClaim(i) || !isClaim(j)) {
            return UNKNOWN;
        }
        if (!isThere(i) || !isThere(j)) {
            return STATE;
        }
        return made.join(claims[k], claims[i], claims[j], needsBoth);
    }

    private int sayOf(int k, int i, int u, boolean ofEach) {
        if (!isClaim(k) || !isClaim(i) || !isNumber(u)) {
            return UNKNOWN;
        }
        if (!isThere(i)) {
            return STATE;
        }
        return said.say(claims[k], claims[i], u, ofEach);
    }

    // ---- 3 what is told

    public int holds(int k, int x, int y, int z) {
        if (!isClaim(k)) {
            return UNKNOWN;
        }
        if (!isTold(x) || !isTold(y) || !isTold(z)) {
            return OUTSIDE;
        }
        if (!isThere(k)) {
            return STATE;
        }
        return claims[k].saysOf(x, y, z) ? 1 : 0;
    }

    public int depends(int k) {
        if (!isClaim(k)) {
            return UNKNOWN;
        }
        if (!isThere(k)) {
            return STATE;
        }
        int set = 0;
        for (int u = 0; u < NUMBERS; u++) {
            if (claims[k].heeds(u)) {
                set |= 1 << u;
            }
        }
        return set;
    }

    public int kinds(int k) {
        if (!isClaim(k)) {
            return UNKNOWN;
        }
        return isThere(k) ? claims[k].size() : STATE;
    }

    public long below(int k, int n) {
        if (!isClaim(k) || n < 0 || n > MOST_DIGITS_BELOW || !isThere(k)) {
            return LOST;
        }
        return teller.countBelow(claims[k], n);
    }

    public int least(int k, int u) {
        if (!isClaim(k) || !isNumber(u)) {
            return UNKNOWN;
        }
        if (!isThere(k)) {
            return STATE;
        }
        int lesser = u == 0 ? 1 : 0;
        int greater = NUMBERS - u - lesser;
        if (said.say(spare, claims[k], lesser, false) == SPENT) {
            return SPENT;
        }
        if (said.say(spare, spare, greater, false) == SPENT) {
            return SPENT;
        }
        long least = teller.leastOf(spare, u);
        return least > MOST_TOLD ? OVER : (int) least;
    }

    public int same(int i, int j) {
        if (!isClaim(i) || !isClaim(j)) {
            return UNKNOWN;
        }
        if (!isThere(i) || !isThere(j)) {
            return STATE;
        }
        return claims[i].isAsOther(claims[j]) ? 1 : 0;
    }

    public int drop(int k) {
        if (!isClaim(k)) {
            return UNKNOWN;
        }
        if (!isThere(k)) {
            return STATE;
        }
        int had = claims[k].size();
        claims[k].begin(0);
        return had;
    }

    public int many(int what) {
        if (what < 0 || what > 1) {
            return OUTSIDE;
        }
        int count = 0;
        for (int k = 0; k < CLAIMS; k++) {
            if (what == 1) {
                count += claims[k].size();
            } else if (isThere(k)) {
                count++;
            }
        }
        return count;
    }

    private boolean isThere(int k) {
        return isClaim(k) && claims[k].size() > 0;
    }

    private static boolean isClaim(int k) {
        return k >= 0 && k < CLAIMS;
    }

    private static boolean isNumber(int u) {
        return u >= 0 && u < NUMBERS;
    }

    private static boolean areTwoNumbers(int u, int v) {
        return isNumber(u) && isNumber(v) && u != v;
    }

    private static boolean isPlace(int p) {
        return p >= 0 && p < PLACES;
    }

    private static boolean isTelling(int v) {
        return v >= 0 && v < TELLINGS;
    }

    private static boolean isTold(int number) {
        return number >= 0 && number <= MOST_TOLD;
    }

    private static boolean isColumn(int column) {
        return column >= 0 && column < COLUMNS;
    }

    private static int digitOf(int column, int u) {
        return column >> u & 1;
    }

    /** The machine that writes THE ROW. */
    private static final class RowMachine {
        private final int[] goes = new int[PLACES * 2];
        private final int[] told = new int[PLACES];

        void put(int p, int zero, int one, int v) {
            if (!isPlace(p)) {
                return;
            }
            goes[p * 2] = zero;
            goes[p * 2 + 1] = one;
            told[p] = v;
        }

        int goesOn(int p, int digit) {
            return isPlace(p) && (digit == 0 || digit == 1) ? goes[p * 2 + digit] : 0;
        }

        int toldAt(int p) {
            return isPlace(p) ? told[p] : 0;
        }

        // Digits 0 ahead of the number's own change nothing: PLACE 0 stays by 0.
        int toldOf(int number) {
            int p = 0;
            for (int digit = DIGITS_TOLD - 1; digit >= 0; digit--) {
                p = goesOn(p, number >> digit & 1);
            }
            return toldAt(p);
        }
    }

    /**
     * A CLAIM as its least machine, which reads columns from the highest on: one state for each KIND, state 0
     * that of 0, 0, 0. The states stand in the order in which a walk from state 0 meets them, so that two CLAIMS
     * that HOLD of the same threes are alike in each number here. Size 0: the CLAIM is not there.
     */
    private static final class Claim {
        private final int[] next = new int[MOST_KINDS * COLUMNS];
        private final boolean[] says = new boolean[MOST_KINDS];
        private int size = 0;

        int size() {
            return size;
        }

        void begin(int newSize) {
            size = Math.max(0, Math.min(newSize, MOST_KINDS));
        }

        boolean isKind(int kind) {
            return kind >= 0 && kind < size;
        }

        void write(int kind, int column, int to) {
            if (isKind(kind) && isColumn(column) && isKind(to)) {
                next[kind * COLUMNS + column] = to;
            }
        }

        void writeSays(int kind, boolean yes) {
            if (isKind(kind)) {
                says[kind] = yes;
            }
        }

        int after(int kind, int column) {
            return isKind(kind) && isColumn(column) ? next[kind * COLUMNS + column] : 0;
        }

        boolean saysAt(int kind) {
            return isKind(kind) && says[kind];
        }

        void becomeNot(Claim other) {
            size = other.size;
            System.arraycopy(other.next, 0, next, 0, size * COLUMNS);
            for (int kind = 0; kind < size; kind++) {
                says[kind] = !other.says[kind];
            }
        }

        boolean saysOf(int x, int y, int z) {
            int kind = 0;
            for (int digit = DIGITS_TOLD - 1; digit >= 0; digit--) {
                int column = (x >> digit & 1) | (y >> digit & 1) << 1 | (z >> digit & 1) << 2;
                kind = after(kind, column);
            }
            return saysAt(kind);
        }

        // No two states of a least machine are of one KIND: if a digit of u ever leads elsewhere, u counts.
        boolean heeds(int u) {
            for (int kind = 0; kind < size; kind++) {
                for (int column = 0; column < COLUMNS; column++) {
                    if (after(kind, column) != after(kind, column ^ 1 << u)) {
                        return true;
                    }
                }
            }
            return false;
        }

        boolean isAsOther(Claim other) {
            if (size != other.size) {
                return false;
            }
            for (int kind = 0; kind < size; kind++) {
                if (says[kind] != other.says[kind]) {
                    return false;
                }
            }
            for (int at = 0; at < size * COLUMNS; at++) {
                if (next[at] != other.next[at]) {
                    return false;
                }
            }
            return true;
        }
    }

    /** Numbers pairs of numbers below 64 from 0 on, in the order in which they are first asked for. */
    private static final class PairNumbers {
        private static final int SIDE = 64;
        private static final int NUMBER_BITS = 12;
        private static final int NUMBER_MASK = (1 << NUMBER_BITS) - 1;
        private static final int LAST_TURN = (1 << 19) - 1;

        // Each entry bears the turn in which it was made: so forgetting all of them takes no walk over the table.
        private final int[] table = new int[SIDE * SIDE];
        private int turn = 1;
        private int count = 0;

        int count() {
            return count;
        }

        void forget() {
            if (turn >= LAST_TURN) {
                Arrays.fill(table, 0);
                turn = 0;
            }
            turn++;
            count = 0;
        }

        int numberOf(int first, int second) {
            if (first < 0 || first >= SIDE || second < 0 || second >= SIDE) {
                return 0;
            }
            int at = first * SIDE + second;
            if (table[at] >> NUMBER_BITS != turn) {
                table[at] = turn << NUMBER_BITS | count;
                count++;
            }
            return table[at] & NUMBER_MASK;
        }
    }

    /** Numbers sets of KINDS from 0 on, in the order in which they are first asked for, up to MOST_SETS of them. */
    private static final class SetNumbers {
        private static final int SLOT_BITS = 10;
        private static final int SLOTS = 1 << SLOT_BITS;
        private static final long SPREAD = 0x9E3779B97F4A7C15L;

        private final long[] sets = new long[MOST_SETS];
        // A slot holds a set's number and 1 more, so that 0 says that it is free.
        private final int[] slots = new int[SLOTS];
        private int count = 0;

        int count() {
            return count;
        }

        long setOf(int number) {
            return number >= 0 && number < count ? sets[number] : 0L;
        }

        void forget() {
            Arrays.fill(slots, 0);
            count = 0;
        }

        /** The set's number, or SPENT: it would be one too many. */
        int numberOf(long set) {
            int slot = (int) (set * SPREAD >>> 64 - SLOT_BITS);
            for (int tried = 0; tried < SLOTS; tried++) {
                if (slots[slot] == 0) {
                    return add(set, slot);
                }
                if (setOf(slots[slot] - 1) == set) {
                    return slots[slot] - 1;
                }
                slot = slot + 1 & SLOTS - 1;
            }
            return SPENT;
        }

        private int add(long set, int slot) {
            if (count >= MOST_SETS || slot < 0 || slot >= SLOTS) {
                return SPENT;
            }
            sets[count] = set;
            count++;
            slots[slot] = count;
            return count - 1;
        }
    }

    /**
     * A machine that is being made, and how it becomes a CLAIM. Of its states some may be of one KIND; states that
     * no three comes to may stand in it only if it has no more than MOST_KINDS states.
     */
    private static final class Draft {
        private static final int FIRST_ROOMS = 32;

        private final PairNumbers pairs;
        // The sorts: what may still be one KIND, as far as the states have been told apart.
        private final int[] stateOf = new int[MOST_KINDS];
        private final int[] kindOf = new int[MOST_KINDS];
        private final int[] order = new int[MOST_KINDS];
        private int rooms = FIRST_ROOMS;
        private int count = 0;
        private int[] next = new int[FIRST_ROOMS * COLUMNS];
        private boolean[] says = new boolean[FIRST_ROOMS];
        private int[] note = new int[FIRST_ROOMS];
        private int[] sort = new int[FIRST_ROOMS];
        private int[] freshSort = new int[FIRST_ROOMS];

        Draft(PairNumbers pairs) {
            this.pairs = pairs;
        }

        // Few objects ever join their dearest CLAIMS: the rows grow when that comes, not before.
        private void makeRoom(int wanted) {
            if (wanted <= rooms) {
                return;
            }
            rooms = Math.min(MOST_STATES, Math.max(wanted, 2 * rooms));
            next = new int[rooms * COLUMNS];
            says = new boolean[rooms];
            note = new int[rooms];
            sort = new int[rooms];
            freshSort = new int[rooms];
        }

        void begin(int newCount, int mostStates) {
            makeRoom(mostStates);
            count = Math.max(0, Math.min(newCount, rooms));
        }

        int count() {
            return count;
        }

        private boolean isState(int state) {
            return state >= 0 && state < count;
        }

        void add() {
            if (count < rooms) {
                count++;
            }
        }

        void write(int state, int column, int to) {
            if (isState(state) && isColumn(column)) {
                next[state * COLUMNS + column] = to;
            }
        }

        void writeSays(int state, boolean yes) {
            if (isState(state)) {
                says[state] = yes;
            }
        }

        void writeNote(int state, int text) {
            if (isState(state)) {
                note[state] = text;
            }
        }

        int noteOf(int state) {
            return isState(state) ? note[state] : 0;
        }

        private int sortAfter(int state, int column) {
            if (state < 0 || state >= count || column < 0 || column >= COLUMNS) {
                return 0;
            }
            int to = next[state * COLUMNS + column];
            return to >= 0 && to < count ? sort[to] : 0;
        }

        /** Puts the least machine in the CLAIM's place and answers its KINDS; SPENT, with the CLAIM as it was. */
        int reduceInto(Claim claim) {
            if (!tellApart()) {
                return SPENT;
            }
            int found = putInOrder();
            copyInto(claim, found);
            return found;
        }

        // Each round but the last finds one sort more at least: so more rounds than KINDS are never needed.
        private boolean tellApart() {
            int sorts = sortBySays();
            for (int round = 0; round <= MOST_KINDS; round++) {
                int before = sorts;
                for (int column = 0; column < COLUMNS && sorts <= MOST_KINDS; column++) {
                    sorts = splitBy(column);
                }
                if (sorts == before || sorts > MOST_KINDS) {
                    break;
                }
            }
            return sorts <= MOST_KINDS;
        }

        private int sortBySays() {
            pairs.forget();
            for (int state = 0; state < count; state++) {
                sort[state] = pairs.numberOf(0, says[state] ? 1 : 0);
            }
            return pairs.count();
        }

        private int splitBy(int column) {
            pairs.forget();
            for (int state = 0; state < count && pairs.count() <= MOST_KINDS; state++) {
                freshSort[state] = pairs.numberOf(sort[state], sortAfter(state, column));
            }
            int[] old = sort;
            sort = freshSort;
            freshSort = old;
            return pairs.count();
        }

        private int putInOrder() {
            for (int state = 0; state < count; state++) {
                if (sort[state] >= 0 && sort[state] < MOST_KINDS) {
                    stateOf[sort[state]] = state;
                }
            }
            Arrays.fill(kindOf, -1);
            int found = meet(sort[0], 0);
            for (int kind = 0; kind < found && kind < MOST_KINDS; kind++) {
                int state = stateOfSort(order[kind]);
                for (int column = 0; column < COLUMNS; column++) {
                    found = meet(sortAfter(state, column), found);
                }
            }
            return found;
        }

        private void copyInto(Claim claim, int found) {
            claim.begin(found);
            for (int kind = 0; kind < found && kind < MOST_KINDS; kind++) {
                int state = stateOfSort(order[kind]);
                claim.writeSays(kind, isState(state) && says[state]);
                for (int column = 0; column < COLUMNS; column++) {
                    claim.write(kind, column, kindOfSort(sortAfter(state, column)));
                }
            }
        }

        private int meet(int met, int found) {
            if (met < 0 || met >= MOST_KINDS || found < 0 || found >= MOST_KINDS || kindOf[met] >= 0) {
                return found;
            }
            kindOf[met] = found;
            order[found] = met;
            return found + 1;
        }

        private int stateOfSort(int wanted) {
            return wanted >= 0 && wanted < MOST_KINDS ? stateOf[wanted] : 0;
        }

        private int kindOfSort(int wanted) {
            return wanted >= 0 && wanted < MOST_KINDS ? kindOf[wanted] : 0;
        }
    }

    /** The CLAIMS that come from no others. */
    private static final class PlainClaims {
        private final Draft draft;

        PlainClaims(Draft draft) {
            this.draft = draft;
        }

        private void start(int states) {
            draft.begin(states, states);
        }

        // States: 0 the same so far, 1 not.
        int makeEqual(Claim claim, int u, int v) {
            start(2);
            for (int column = 0; column < COLUMNS; column++) {
                draft.write(0, column, digitOf(column, u) == digitOf(column, v) ? 0 : 1);
                draft.write(1, column, 1);
            }
            draft.writeSays(0, true);
            draft.writeSays(1, false);
            return draft.reduceInto(claim);
        }

        // States: 0 the same so far, 1 less, 2 more.
        int makeLess(Claim claim, int u, int v) {
            start(3);
            for (int column = 0; column < COLUMNS; column++) {
                int lead = digitOf(column, u) - digitOf(column, v);
                draft.write(0, column, lead == 0 ? 0 : lead < 0 ? 1 : 2);
                draft.write(1, column, 1);
                draft.write(2, column, 2);
            }
            for (int state = 0; state < 3; state++) {
                draft.writeSays(state, state == 1);
            }
            return draft.reduceInto(claim);
        }

        // States: 0, 1 by how much the third leads so far; 2 what no digits to come can mend.
        int makeSum(Claim claim, int u, int v) {
            start(3);
            int third = NUMBERS - u - v;
            for (int column = 0; column < COLUMNS; column++) {
                int change = digitOf(column, third) - digitOf(column, u) - digitOf(column, v);
                for (int lead = 0; lead < 2; lead++) {
                    int newLead = 2 * lead + change;
                    draft.write(lead, column, newLead == 0 || newLead == 1 ? newLead : 2);
                }
                draft.write(2, column, 2);
            }
            for (int state = 0; state < 3; state++) {
                draft.writeSays(state, state == 0);
            }
            return draft.reduceInto(claim);
        }

        // States: how many digits of c have come; the last one: it is another number.
        int makeFixed(Claim claim, int u, int c) {
            int digits = digitsOf(c);
            int other = digits + 1;
            start(digits + 2);
            for (int come = 0; come <= digits; come++) {
                for (int column = 0; column < COLUMNS; column++) {
                    draft.write(come, column, afterDigit(come, digitOf(column, u), c, digits));
                }
                draft.writeSays(come, come == digits);
            }
            for (int column = 0; column < COLUMNS; column++) {
                draft.write(other, column, other);
            }
            draft.writeSays(other, false);
            return draft.reduceInto(claim);
        }

        private static int digitsOf(int c) {
            int digits = 0;
            while (digits < DIGITS_FIXED && c >> digits != 0) {
                digits++;
            }
            return digits;
        }

        private static int afterDigit(int come, int digit, int c, int digits) {
            if (come == 0 && digit == 0) {
                return 0;
            }
            boolean fits = come < digits && (c >> digits - 1 - come & 1) == digit;
            return fits ? come + 1 : digits + 1;
        }

        int makeTells(Claim claim, RowMachine theRow, int u, int v) {
            start(PLACES);
            for (int p = 0; p < PLACES; p++) {
                for (int column = 0; column < COLUMNS; column++) {
                    draft.write(p, column, theRow.goesOn(p, digitOf(column, u)));
                }
                draft.writeSays(p, theRow.toldAt(p) == v);
            }
            return draft.reduceInto(claim);
        }

        int makeAlike(Claim claim, RowMachine theRow, int u, int v) {
            start(PLACES * PLACES);
            for (int p = 0; p < PLACES; p++) {
                for (int q = 0; q < PLACES; q++) {
                    int state = p * PLACES + q;
                    for (int column = 0; column < COLUMNS; column++) {
                        int toP = theRow.goesOn(p, digitOf(column, u));
                        int toQ = theRow.goesOn(q, digitOf(column, v));
                        draft.write(state, column, toP * PLACES + toQ);
                    }
                    draft.writeSays(state, theRow.toldAt(p) == theRow.toldAt(q));
                }
            }
            return draft.reduceInto(claim);
        }
    }

    /** The CLAIMS that come from others by reading the same digits. */
    private static final class MadeClaims {
        private static final int SECOND_BITS = 6;
        private static final int SECOND_MASK = (1 << SECOND_BITS) - 1;

        private final Draft draft;
        private final PairNumbers pairs;

        MadeClaims(Draft draft, PairNumbers pairs) {
            this.draft = draft;
            this.pairs = pairs;
        }

        // A state's note is the pair of KINDS for which it stands.
        int join(Claim claim, Claim first, Claim second, boolean needsBoth) {
            draft.begin(0, first.size() * second.size());
            pairs.forget();
            stateFor(0, 0);
            for (int state = 0; state < draft.count() && state < MOST_STATES; state++) {
                int a = draft.noteOf(state) >> SECOND_BITS;
                int b = draft.noteOf(state) & SECOND_MASK;
                for (int column = 0; column < COLUMNS; column++) {
                    draft.write(state, column, stateFor(first.after(a, column), second.after(b, column)));
                }
                boolean inFirst = first.saysAt(a);
                boolean inSecond = second.saysAt(b);
                draft.writeSays(state, needsBoth ? inFirst && inSecond : inFirst || inSecond);
            }
            return draft.reduceInto(claim);
        }

        private int stateFor(int a, int b) {
            int state = pairs.numberOf(a, b);
            if (state == draft.count()) {
                draft.add();
                draft.writeNote(state, a << SECOND_BITS | b);
            }
            return state;
        }

        // With other columns the walk that orders the states goes another way: so it is done anew.
        int exchange(Claim claim, Claim from, int u, int v) {
            draft.begin(from.size(), from.size());
            for (int kind = 0; kind < from.size(); kind++) {
                for (int column = 0; column < COLUMNS; column++) {
                    draft.write(kind, exchanged(column, u, v), from.after(kind, column));
                }
                draft.writeSays(kind, from.saysAt(kind));
            }
            return draft.reduceInto(claim);
        }

        private static int exchanged(int column, int u, int v) {
            return digitOf(column, u) == digitOf(column, v) ? column : column ^ 1 << u ^ 1 << v;
        }
    }

    /** The CLAIMS that are said of some number, of all: their states stand for sets of the other CLAIM's KINDS. */
    private static final class SaidClaims {
        private final Draft draft;
        private final SetNumbers sets = new SetNumbers();
        private final long[] steps = new long[MOST_KINDS * COLUMNS];
        private long yes = 0L;

        SaidClaims(Draft draft) {
            this.draft = draft;
        }

        int say(Claim claim, Claim from, int u, boolean ofEach) {
            prepare(from, u);
            sets.forget();
            draft.begin(0, MOST_SETS);
            stateFor(firstSet(from.size()));
            for (int state = 0; state < draft.count() && state < MOST_SETS; state++) {
                long set = sets.setOf(state);
                draft.writeSays(state, ofEach ? (set & ~yes) == 0L : (set & yes) != 0L);
                if (!stepOn(state, from.size(), u)) {
                    return SPENT;
                }
            }
            return draft.reduceInto(claim);
        }

        private void prepare(Claim from, int u) {
            yes = 0L;
            for (int kind = 0; kind < from.size() && kind < MOST_KINDS; kind++) {
                if (from.saysAt(kind)) {
                    yes |= 1L << kind;
                }
                for (int column = 0; column < COLUMNS; column++) {
                    long here = 1L << from.after(kind, column);
                    long there = 1L << from.after(kind, column ^ 1 << u);
                    steps[kind * COLUMNS + column] = here | there;
                }
            }
        }

        // The number in place of u may have more digits than the others: their digits ahead are 0 then.
        private long firstSet(int size) {
            long set = 1L;
            for (int digit = 0; digit < MOST_KINDS; digit++) {
                long more = set | afterSet(set, size, 0);
                if (more == set) {
                    break;
                }
                set = more;
            }
            return set;
        }

        private long afterSet(long set, int size, int column) {
            long after = 0L;
            for (int kind = 0; kind < size && kind < MOST_KINDS; kind++) {
                if ((set >> kind & 1L) != 0L && isColumn(column)) {
                    after |= steps[kind * COLUMNS + column];
                }
            }
            return after;
        }

        private boolean stepOn(int state, int size, int u) {
            long set = sets.setOf(state);
            for (int column = 0; column < COLUMNS; column++) {
                if (digitOf(column, u) == 0) {
                    int to = stateFor(afterSet(set, size, column));
                    if (to == SPENT) {
                        return false;
                    }
                    draft.write(state, column, to);
                    draft.write(state, column ^ 1 << u, to);
                }
            }
            return true;
        }

        private int stateFor(long set) {
            int state = sets.numberOf(set);
            if (state == draft.count()) {
                draft.add();
            }
            return state;
        }
    }

    /** What is told of a CLAIM by walking through its machine. */
    private static final class Teller {
        private final long[] ways = new long[MOST_KINDS];
        private final long[] freshWays = new long[MOST_KINDS];
        private final long[] leastTo = new long[MOST_KINDS];
        private final int[] waiting = new int[MOST_KINDS];

        long countBelow(Claim claim, int n) {
            int size = Math.min(claim.size(), MOST_KINDS);
            for (int kind = 0; kind < size; kind++) {
                ways[kind] = claim.saysAt(kind) ? 1L : 0L;
            }
            for (int digit = 0; digit < n; digit++) {
                for (int kind = 0; kind < size; kind++) {
                    freshWays[kind] = waysOn(claim, kind);
                }
                System.arraycopy(freshWays, 0, ways, 0, size);
            }
            return ways[0];
        }

        private long waysOn(Claim claim, int kind) {
            long on = 0L;
            for (int column = 0; column < COLUMNS; column++) {
                int to = claim.after(kind, column);
                if (to >= 0 && to < MOST_KINDS) {
                    on += ways[to];
                }
            }
            return on;
        }

        /** The least u of which a CLAIM on u alone HOLDS, or NONE. It has fewer digits than there are KINDS. */
        long leastOf(Claim claim, int u) {
            Arrays.fill(leastTo, -1L);
            int found = comeTo(0, 0L, 0);
            // The KINDS wait in the order of the least numbers that come to them: the first that says yes is it.
            for (int at = 0; at < found && at < MOST_KINDS; at++) {
                int kind = waiting[at];
                long number = leastNumberTo(kind);
                if (claim.saysAt(kind)) {
                    return number;
                }
                found = comeTo(claim.after(kind, 0), 2L * number, found);
                found = comeTo(claim.after(kind, 1 << u), 2L * number + 1L, found);
            }
            return NONE;
        }

        private long leastNumberTo(int kind) {
            return kind >= 0 && kind < MOST_KINDS ? leastTo[kind] : 0L;
        }

        private int comeTo(int kind, long number, int found) {
            if (kind < 0 || kind >= MOST_KINDS || found < 0 || found >= MOST_KINDS || leastTo[kind] >= 0L) {
                return found;
            }
            leastTo[kind] = number;
            waiting[found] = kind;
            return found + 1;
        }
    }
}
