import java.io.IOException;
import java.lang.reflect.Constructor;
import java.lang.reflect.Field;
import java.lang.reflect.Method;
import java.lang.reflect.Modifier;
import java.nio.file.Files;
import java.nio.file.Path;
import java.util.Map;
import java.util.Set;
import java.util.TreeMap;
import java.util.TreeSet;
import java.util.regex.Matcher;
import java.util.regex.Pattern;

/** The public face as the document tells it, and the rules of LANGUAGE.md that can be seen without reading on. */
public final class FaceTest {
    private static final Due DUE = new Due();

    public static void main(String[] args) throws IOException {
        face();
        classesInside();
        words(Files.readString(Path.of("src/main/java/DigitClaims.java")));
        DUE.end();
    }

    private static void face() {
        Class<?> c = DigitClaims.class;
        DUE.due("the class's modifiers", c.getModifiers(), Modifier.PUBLIC | Modifier.FINAL);
        Map<String, Integer> wanted = new TreeMap<>();
        for (int at = 0; at < Calls.NAMES.length; at++) {
            wanted.put(Calls.NAMES[at], Calls.ARGUMENTS[at]);
        }
        int found = 0;
        for (Method m : c.getDeclaredMethods()) {
            boolean ours = Modifier.isPublic(m.getModifiers());
            DUE.holds(m + " is private or of the face", ours || Modifier.isPrivate(m.getModifiers()));
            DUE.holds(m + " bears no name of the face, if private", ours == wanted.containsKey(m.getName()));
            if (ours) {
                found++;
                DUE.due(m + " arguments", m.getParameterCount(), wanted.getOrDefault(m.getName(), -1));
                DUE.holds(m + " answers", m.getReturnType() == (m.getName().equals("below") ? long.class : int.class));
            }
        }
        DUE.due("methods of the face", found, wanted.size());
        Constructor<?>[] constructors = c.getDeclaredConstructors();
        DUE.due("constructors", constructors.length, 1);
        DUE.due("the constructor's modifiers", constructors[0].getModifiers(), Modifier.PUBLIC);
        Set<String> constants = new TreeSet<>();
        for (Field f : c.getDeclaredFields()) {
            DUE.holds(f + " is final", Modifier.isFinal(f.getModifiers()));
            if (!Modifier.isPrivate(f.getModifiers())) {
                constants.add(f.getName() + Modifier.isPublic(f.getModifiers()) + f.getType());
            }
        }
        DUE.holds("constants: " + constants, constants.equals(Set.of("UNKNOWNtrueint", "OUTSIDEtrueint",
            "STATEtrueint", "OVERtrueint", "SPENTtrueint", "NONEtrueint", "LOSTtruelong")));
    }

    private static void classesInside() {
        Class<?>[] inside = DigitClaims.class.getDeclaredClasses();
        DUE.holds("some twelve classes", inside.length <= 12);
        for (Class<?> c : inside) {
            DUE.holds(c + " is static", Modifier.isStatic(c.getModifiers()));
            DUE.holds(c + " is not public", !Modifier.isPublic(c.getModifiers()));
            int fields = 0;
            for (Field f : c.getDeclaredFields()) {
                boolean isStatic = Modifier.isStatic(f.getModifiers());
                DUE.holds(f + " is final, if static", !isStatic || Modifier.isFinal(f.getModifiers()));
                fields += isStatic ? 0 : 1;
            }
            DUE.holds(c + " has some twenty fields", fields <= 20);
            for (Method m : c.getDeclaredMethods()) {
                DUE.holds(m + " takes at most seven", m.getParameterCount() <= 7);
            }
        }
    }

    private static void words(String source) {
        String code = source.replaceAll("(?s)/\\*.*?\\*/", "").replaceAll("//[^\n]*", "");
        for (String word : new String[] {"throw", "throws", "try", "catch", "synchronized", "assert", "instanceof",
            "protected", "package", "double", "float"}) {
            DUE.holds("no " + word, !Pattern.compile("\\b" + word + "\\b").matcher(code).find());
        }
        DUE.holds("no lambda", !code.contains("->"));
        DUE.holds("no method reference", !code.contains("::"));
        Matcher imports = Pattern.compile("import [^;]*;").matcher(code);
        while (imports.find()) {
            DUE.holds(imports.group(), imports.group().equals("import java.util.Arrays;"));
        }
        Matcher library = Pattern.compile("\\b(Arrays|System|Math|Long|Integer)\\.(\\w+)").matcher(code);
        Set<String> listed = Set.of("Arrays.fill", "System.arraycopy", "Math.min", "Math.max", "Long.MIN_VALUE");
        while (library.find()) {
            DUE.holds(library.group() + " is listed", listed.contains(library.group()));
        }
        DUE.holds("no sign but 1 to 127", source.chars().allMatch(sign -> sign < 128));
    }
}
