import java.nio.file.Files;
import java.nio.file.Path;
import java.util.ArrayList;
import java.util.List;
import java.util.Map;
import java.util.Set;
import java.util.TreeMap;
import java.util.TreeSet;
import java.util.regex.Matcher;
import java.util.regex.Pattern;

/**
 * Rules 8 and 11 of LANGUAGE.md: which methods call themselves, by whatever way, and how deep the others go.
 * Methods of one name in two classes are taken for one, which can only make it deeper.
 */
public final class CallDepthTest {
    private static final int DEEPEST = 8;
    /** Each of these carries its depth, or what is left, as an argument that is looked at. */
    private static final Set<String> GUARDED = Set.of("[goOn]", "[tryWays]", "[childsDeed, mansDeed]",
        "[own, run, workedOut]", "[readChain, readOpened, readOperand]");
    private static final Map<String, Set<String>> CALLS = new TreeMap<>();
    private static int wrong = 0;

    private CallDepthTest() {
    }

    public static void main(String[] args) throws Exception {
        readCalls(Files.readString(Path.of("src/main/java/NailedByWord.java")));
        Set<String> rings = new TreeSet<>();
        int deepest = 0;
        for (String name : CALLS.keySet()) {
            Set<String> ring = ringOf(name);
            if (!ring.isEmpty()) {
                rings.add(ring.toString());
            }
            deepest = Math.max(deepest, depth(name, new ArrayList<>()));
        }
        if (!rings.equals(GUARDED)) {
            fault("8: calls in a ring are " + rings);
        }
        if (deepest > DEEPEST) {
            fault("11: " + deepest + " calls deep");
        }
        System.out.println("calls: " + CALLS.size() + " methods, " + rings.size() + " rings, " + deepest + " deep, "
            + wrong + " wrong");
        System.exit(wrong == 0 ? 0 : 1);
    }

    private static void fault(String what) {
        wrong++;
        System.out.println("rule " + what);
    }

    /** A method is a line that opens a brace behind a bracket, up to the brace in the same column. */
    private static void readCalls(String text) {
        String code = text.replaceAll("(?s)/\\*.*?\\*/", " ").replaceAll("//[^\n]*", " ").replaceAll("'[^']'", "0");
        Matcher methods = Pattern.compile("(?ms)^( {4}| {8})(?:\\w+(?:\\[\\])? )+(\\w+)\\([^)]*\\) \\{$(.*?)^\\1\\}$")
            .matcher(code);
        Map<String, String> bodies = new TreeMap<>();
        while (methods.find()) {
            bodies.merge(methods.group(2), methods.group(3), String::concat);
        }
        for (Map.Entry<String, String> method : bodies.entrySet()) {
            Set<String> called = new TreeSet<>();
            Matcher calls = Pattern.compile("(\\w+)\\(").matcher(method.getValue());
            while (calls.find()) {
                if (bodies.containsKey(calls.group(1))) {
                    called.add(calls.group(1));
                }
            }
            CALLS.put(method.getKey(), called);
        }
        if (!CALLS.containsKey("byTurns") || !CALLS.get("byTurns").contains("withChild")) {
            fault("8: the calls cannot be read");
        }
    }

    private static Set<String> reached(String name) {
        Set<String> all = new TreeSet<>();
        List<String> left = new ArrayList<>(CALLS.get(name));
        while (!left.isEmpty()) {
            String next = left.remove(left.size() - 1);
            if (all.add(next)) {
                left.addAll(CALLS.get(next));
            }
        }
        return all;
    }

    /** All that this one calls and that call it in turn. */
    private static Set<String> ringOf(String name) {
        Set<String> ring = new TreeSet<>();
        for (String other : reached(name)) {
            if (reached(other).contains(name)) {
                ring.add(other);
            }
        }
        return ring;
    }

    /** The longest way down on which no method comes twice. */
    private static int depth(String name, List<String> above) {
        if (above.contains(name)) {
            return 0;
        }
        above.add(name);
        int deepest = 0;
        for (String next : CALLS.get(name)) {
            deepest = Math.max(deepest, depth(next, above));
        }
        above.remove(above.size() - 1);
        return deepest + 1;
    }
}
