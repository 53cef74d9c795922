import java.lang.reflect.Method;
import java.util.Arrays;
import java.util.HashMap;
import java.util.Map;

/** A call as a row of numbers: what is called, then what it is given. It can be made of the class and of the oracle. */
final class Calls {
    static final String[] NAMES = {"place", "ofPlace", "row", "equal", "less", "sum", "is", "tells", "alike", "both",
        "either", "not", "swap", "some", "all", "holds", "depends", "kinds", "below", "least", "same", "drop", "many"};
    static final int[] ARGUMENTS = {4, 2, 1, 3, 3, 3, 3, 3, 3, 3, 3, 2, 4, 3, 3, 4, 1, 1, 2, 2, 2, 1, 1};

    private static final Map<Class<?>, Method[]> METHODS = new HashMap<>();

    private Calls() { }

    static long of(Object x, int... c) {
        Object[] given = new Object[ARGUMENTS[c[0]]];
        for (int at = 0; at < given.length; at++) {
            given[at] = c[at + 1];
        }
        try {
            return ((Number) METHODS.computeIfAbsent(x.getClass(), Calls::methods)[c[0]].invoke(x, given)).longValue();
        } catch (ReflectiveOperationException thrown) {
            throw new IllegalStateException(text(c), thrown);
        }
    }

    private static Method[] methods(Class<?> type) {
        Method[] found = new Method[NAMES.length];
        for (Method m : type.getDeclaredMethods()) {
            for (int at = 0; at < NAMES.length; at++) {
                if (m.getName().equals(NAMES[at])) {
                    found[at] = m;
                }
            }
        }
        return found;
    }

    /** A run of calls from its text: names and numbers parted by blanks, calls by semicolons. */
    static int[][] run(String text) {
        String[] parts = text.isBlank() ? new String[0] : text.split(";");
        int[][] calls = new int[parts.length][];
        for (int at = 0; at < parts.length; at++) {
            calls[at] = call(parts[at].strip());
        }
        return calls;
    }

    static int[] call(String text) {
        String[] words = text.split(" +");
        int which = Arrays.asList(NAMES).indexOf(words[0]);
        if (which < 0 || words.length != ARGUMENTS[which] + 1) {
            throw new IllegalArgumentException(text);
        }
        int[] c = new int[words.length];
        c[0] = which;
        for (int at = 1; at < c.length; at++) {
            c[at] = Integer.parseInt(words[at]);
        }
        return c;
    }

    static String text(int... c) {
        StringBuilder out = new StringBuilder(NAMES[c[0]]).append('(');
        for (int at = 1; at <= ARGUMENTS[c[0]]; at++) {
            out.append(at > 1 ? ", " : "").append(c[at]);
        }
        return out.append(')').toString();
    }
}
