import java.lang.reflect.Constructor;
import java.lang.reflect.Field;
import java.lang.reflect.Method;
import java.lang.reflect.Modifier;
import java.nio.file.Files;
import java.nio.file.Path;
import java.util.List;
import java.util.Set;
import java.util.TreeSet;
import java.util.regex.Matcher;
import java.util.regex.Pattern;

/** Those rules of LANGUAGE.md that can be searched for in the text of the class, or asked of its members. */
public final class LanguageTest {
    private static final String SOURCE = "src/main/java/NailedByWord.java";
    private static final String FACE = "act all back best body breaks byTurns can count day drawn element feed feeds "
        + "forget free hard held image judge keep law led letOff mend odds of person promise promises pull put redo "
        + "ring route row rued shift soonest step taken trace undo who words";
    private static int wrong = 0;

    private LanguageTest() {
    }

    public static void main(String[] args) throws Exception {
        String code = withoutCommentsAndLetters(Files.readString(Path.of(SOURCE)));
        words(code);
        face();
        nested();
        lengths(code);
        rows(code);
        System.out.println(wrong == 0 ? "language: all rules kept" : "language: " + wrong + " faults");
        System.exit(wrong == 0 ? 0 : 1);
    }

    private static void fault(String what) {
        wrong++;
        System.out.println("rule: " + what);
    }

    private static String withoutCommentsAndLetters(String text) {
        for (int i = 0; i < text.length(); i++) {
            if (text.charAt(i) > 126) {
                fault("3: a sign above 126");
            }
        }
        return text.replaceAll("(?s)/\\*.*?\\*/", " ").replaceAll("//[^\n]*", " ").replaceAll("'[^']'", "0");
    }

    private static void words(String code) {
        String[] never = {"throw", "throws", "try", "catch", "synchronized", "assert", "import", "package", "native",
            "volatile", "transient", "protected", "double", "float", "Object", "hashCode", "yield", "goto", "System\\.out",
            "System\\.current\\w*", "Random", "Thread", "Runtime", "Class", "Exception"};
        for (String word : never) {
            if (Pattern.compile("\\b" + word + "\\b").matcher(code).find()) {
                fault("6, 13: " + word);
            }
        }
        if (code.contains("->") || code.contains("::") || code.contains("\"") || code.contains("@")) {
            fault("2, 4: an arrow, a method reference, a text or an annotation");
        }
        Matcher calls = Pattern.compile("\\b(Math|Integer|Long|System|Arrays|String)\\.(\\w+)").matcher(code);
        Set<String> known = Set.of("Math.min", "Math.max", "Math.abs", "Integer.bitCount", "Integer.lowestOneBit",
            "Integer.MAX_VALUE", "Long.MIN_VALUE", "System.arraycopy");
        while (calls.find()) {
            if (!known.contains(calls.group())) {
                fault("4: " + calls.group());
            }
        }
    }

    private static void face() {
        Class<?> c = NailedByWord.class;
        if (!Modifier.isPublic(c.getModifiers()) || !Modifier.isFinal(c.getModifiers())) {
            fault("1: the class is public and final");
        }
        Set<String> open = new TreeSet<>();
        for (Method m : c.getDeclaredMethods()) {
            if (Modifier.isPublic(m.getModifiers())) {
                open.add(m.getName());
            } else if (!Modifier.isPrivate(m.getModifiers())) {
                fault("1: " + m.getName() + " is open");
            }
            if (m.getParameterCount() > 7) {
                fault("11: parameters of " + m.getName());
            }
        }
        if (!open.equals(new TreeSet<>(List.of(FACE.split(" "))))) {
            fault("1: the face is " + open);
        }
        Set<String> constants = Set.of("BAD", "NOT", "FULL", "STATE", "VOID");
        for (Field f : c.getDeclaredFields()) {
            if (!Modifier.isPrivate(f.getModifiers()) && !constants.contains(f.getName())) {
                fault("1: " + f.getName() + " is open");
            }
        }
        Constructor<?>[] made = c.getDeclaredConstructors();
        if (made.length != 1 || !Modifier.isPublic(made[0].getModifiers()) || made[0].getParameterCount() != 0) {
            fault("1: the constructor");
        }
    }

    private static void nested() {
        Class<?>[] inside = NailedByWord.class.getDeclaredClasses();
        if (inside.length > 11) {
            fault("11: " + (inside.length + 1) + " classes");
        }
        Set<String> face = Set.of(FACE.split(" "));
        for (Class<?> c : inside) {
            if (!Modifier.isStatic(c.getModifiers())) {
                fault("2: " + c.getSimpleName() + " is not static");
            }
            int fields = 0;
            for (Field f : c.getDeclaredFields()) {
                fields += Modifier.isStatic(f.getModifiers()) ? 0 : 1;
                if (Modifier.isStatic(f.getModifiers()) && !Modifier.isFinal(f.getModifiers())) {
                    fault("5: " + f.getName());
                }
            }
            if (fields > 20) {
                fault("11: " + c.getSimpleName() + " has " + fields + " fields");
            }
            for (Method m : c.getDeclaredMethods()) {
                if (face.contains(m.getName())) {
                    fault("1: " + m.getName() + " is a name of the face");
                }
                if (m.getParameterCount() > 7) {
                    fault("11: parameters of " + m.getName());
                }
            }
        }
    }

    /** A method is a line that opens a brace behind a bracket, up to the brace in the same column. */
    private static void lengths(String code) {
        String[] lines = code.split("\n");
        for (int i = 0; i < lines.length; i++) {
            if (lines[i].matches("( {4}| {8})[^ ].*\\) \\{")) {
                String end = lines[i].replaceAll("^( *).*", "$1") + "}";
                int j = i;
                while (j < lines.length && !lines[j].equals(end)) {
                    j++;
                }
                if (j - i > 60) {
                    fault("11: " + (j - i) + " lines: " + lines[i].trim());
                }
            }
        }
    }

    /** Objects and rows are made with the fields and in the constructor alone. */
    private static void rows(String code) {
        for (String line : code.split("\n")) {
            if (line.contains("new ") && !line.matches(" +private final .*") && !line.contains("new Shelf()")) {
                fault("12: " + line.trim());
            }
        }
    }
}
