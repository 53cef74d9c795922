import java.io.IOException;
import java.nio.file.Files;
import java.nio.file.Path;
import java.util.Set;
import java.util.TreeSet;
import java.util.regex.Matcher;
import java.util.regex.Pattern;

/** The calls that README.md shows answer what it says there, and each call of the face is among them. */
public final class ReadmeTest {
    private static final Due DUE = new Due();
    private static final Pattern SHOWN = Pattern.compile("x\\.(\\w+)\\(([^)]*)\\);\\s*// (-?\\d+)(:.*)?");

    public static void main(String[] args) throws IOException {
        String text = Files.readString(Path.of("README.md"));
        int from = text.indexOf("```java");
        int to = text.indexOf("```", from + 3);
        DUE.holds("README.md shows how the class is used", from >= 0 && to > from);
        DigitClaims x = new DigitClaims();
        Oracle oracle = new Oracle();
        Set<String> shown = new TreeSet<>();
        for (String line : text.substring(Math.max(from, 0), Math.max(to, 0)).split("\n")) {
            if (line.startsWith("x.")) {
                Matcher call = SHOWN.matcher(line);
                DUE.holds("a call and its answer: " + line, call.matches());
                shown.add(call.group(1));
                compare(x, oracle, call);
            }
        }
        DUE.holds("each call is shown: " + shown, shown.equals(new TreeSet<>(Set.of(Calls.NAMES))));
        DUE.end();
    }

    private static void compare(DigitClaims x, Oracle oracle, Matcher call) {
        int[] row = Calls.call(call.group(1) + " " + call.group(2).replace(",", ""));
        long told = Long.parseLong(call.group(3));
        DUE.due("README.md: " + Calls.text(row), Calls.of(x, row), told);
        DUE.due("README.md, the oracle: " + Calls.text(row), Calls.of(oracle, row), told);
    }
}
