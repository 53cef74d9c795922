import java.lang.management.ManagementFactory;

/** What one run makes has to fit in one room, for nothing is ever thrown out of it: 7.3 million elements in all. */
public final class RoomTest {
    private static final Due DUE = new Due();
    /** An int takes 4 bytes, and most of what is made are ints. */
    private static final long BYTES_FOR_ALL = 4L * 7300000L;

    private static long made() {
        return ((com.sun.management.ThreadMXBean) ManagementFactory.getThreadMXBean()).getCurrentThreadAllocatedBytes();
    }

    public static void main(String[] args) {
        // The first one of all brings the classes with it: they are not the run's.
        new DigitClaims().is(0, 0, 0);
        made();
        long before = made();
        DigitClaims x = new DigitClaims();
        long forOne = made() - before;
        DUE.holds("512 new objects take " + 512 * forOne, 512 * forOne < BYTES_FOR_ALL);

        // A number of 58 digits: 60 KINDS, whose joining with another such takes the most room.
        x.equal(5, 0, 1);
        x.sum(4, 0, 1);
        x.both(5, 5, 4);
        x.some(5, 5, 1);
        x.is(0, 0, 1000000);
        before = made();
        for (int time = 0; time < 38; time++) {
            x.both(1, 0, 5);
            x.some(1, 1, 0);
            x.swap(0, 1, 0, 2);
        }
        DUE.due("kinds", x.kinds(0), 60);
        x.swap(2, 0, 0, 1);
        for (int time = 0; time < 80; time++) {
            x.either(3, 0, 2);
            x.both(3, 0, 2);
            x.least(0, 0);
            x.all(4, 0, 1);
        }
        long forAll = made() - before;
        DUE.holds("the dearest calls take " + forAll, forAll < 500000);
        before = made();
        for (int time = 0; time < 80; time++) {
            x.either(3, 0, 2);
            x.least(0, 0);
            x.below(0, 12);
            x.same(0, 2);
        }
        long more = made() - before;
        // Asking for the bytes takes some itself.
        DUE.holds("then nothing more is made: " + more, more < 4000);
        DUE.end();
    }
}
