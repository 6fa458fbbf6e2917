import java.lang.reflect.Method;
import java.lang.reflect.Modifier;
import java.util.ArrayList;
import java.util.Arrays;
import java.util.List;
import java.util.Set;

/**
 * "What is answered so changes nothing": two towns alike, of which one is asked all that is refused, and all that is
 * thought or told only. Whatever both are asked then they answer alike, what can be undone, done again, laid back,
 * and the law on the tape among it.
 */
public final class RefusalsTest {
    private static final Set<Long> REFUSED = Set.of(-1L, -2L, -3L, -5L, -11L, -12L, -13L, -14L);
    private static final int[] MANY = {Integer.MIN_VALUE, -3040, -101, -61, -14, -10, -5, -2, -1, 0, 1, 2, 3, 4, 5, 6, 7, 8,
        9, 10, 11, 12, 13, 22, 24, 25, 30, 31, 55, 59, 60, 61, 66, 98, 99, 100, 119, 120, 121, 141, 255, 256, 500, 999, 1000,
        3040, 3041, 3101, Integer.MAX_VALUE};
    private static final int[] SOME = {Integer.MIN_VALUE, -2, -1, 0, 1, 3, 5, 6, 8, 9, 10, 12, 24, 25, 31, 60, 61, 99, 100,
        141, 999, 1000, 3101, Integer.MAX_VALUE};
    private static final int[] FEW = {Integer.MIN_VALUE, -1, 0, 1, 5, 6, 10, 25, 61, 100, Integer.MAX_VALUE};
    private static final int[] FEWEST = {-1, 0, 2, 5, 6, 60, Integer.MAX_VALUE};

    private static final Set<String> THOUGHTS = Set.of("of", "hard", "route", "held", "best", "soonest", "free", "words", "all",
        "ring", "breaks", "judge", "can", "who", "feeds", "odds", "rued", "byTurns", "drawn", "led", "trace", "element",
        "taken", "count");

    private static int refusals = 0;
    private static int wrong = 0;

    private RefusalsTest() {
    }

    public static void main(String[] args) throws Exception {
        for (int state = 0; state < 4; state++) {
            for (Method m : NailedByWord.class.getDeclaredMethods()) {
                if (Modifier.isPublic(m.getModifiers()) && !m.getName().equals("act")) {
                    refuse(state, m);
                }
            }
        }
        System.out.println(refusals + " calls that change nothing, " + wrong + " wrong");
        System.exit(wrong == 0 && refusals > 10000 ? 0 : 1);
    }

    private static void refuse(int state, Method m) throws Exception {
        List<Object[]> tuples = new ArrayList<>();
        int n = m.getParameterCount();
        int[] values = n < 3 ? MANY : n == 3 ? SOME : n == 4 ? FEW : FEWEST;
        addTuples(tuples, m.getParameterTypes(), new Object[n], 0, values);
        NailedByWord asked = town(state);
        NailedByWord unasked = town(state);
        for (Object[] tuple : tuples) {
            long first = ((Number) m.invoke(town(state), tuple)).longValue();
            if (changesNothing(m, first)) {
                refusals++;
                same(state, m.getName() + Arrays.toString(tuple) + " once more", ((Number) m.invoke(asked, tuple)).longValue(), first);
            }
        }
        compare(state, m.getName(), asked, unasked);
    }

    private static boolean changesNothing(Method m, long answer) {
        if (THOUGHTS.contains(m.getName())) {
            return true;
        }
        return m.getReturnType() == long.class ? answer == Long.MIN_VALUE : REFUSED.contains(answer);
    }

    private static void addTuples(List<Object[]> tuples, Class<?>[] types, Object[] tuple, int i, int[] values) {
        if (i == tuple.length) {
            tuples.add(tuple.clone());
            return;
        }
        for (int v : values) {
            tuple[i] = types[i] == long.class ? (Object) (long) v : (Object) v;
            addTuples(tuples, types, tuple, i + 1, values);
        }
    }

    private static void same(int state, String what, long got, long want) {
        if (got != want) {
            wrong++;
            System.out.println("state " + state + ": " + what + " answered " + got + ", due is " + want);
        }
    }

    /** An empty town; one with some of all; one where all is full; one with a law, and no boots. */
    private static NailedByWord town(int state) {
        NailedByWord x = new NailedByWord();
        int people = new int[] {0, 3, 6, 2}[state];
        int promises = new int[] {0, 4, 12, 3}[state];
        int changes = new int[] {0, 3, 50, 2}[state];
        int bodies = new int[] {0, 2, 50, 8}[state];
        for (int i = 0; i < people; i++) {
            x.person(4 * i);
        }
        for (int i = 0; i < promises; i++) {
            x.promise(10 * (i % 2) + 1 - i % 2, 100 * (9 - i % 4) + 99 - i);
        }
        for (int i = 0; i < changes; i++) {
            x.mend(0, 9, i + 1);
        }
        for (int i = 0; i < bodies; i++) {
            x.body(i % 8);
        }
        for (int shelf = 0; shelf < 6 && state > 0; shelf++) {
            x.row(shelf, (shelf + state) % 5, state == 2 ? 60 : 7);
            x.put(shelf, 5, shelf + 1);
        }
        if (state > 0) {
            x.keep(3, 1);
            x.act(1, 3, 5);
            x.image();
            x.forget(0);
            x.step(1, 1);
            x.day();
            x.undo();
            x.undo();
            tape(x, state == 2 ? "w+o".repeat(24).replace("ow", "o-w") : "w+o-f+b");
        }
        if (state == 3) {
            x.law();
            tape(x, "w-b");
            x.redo();
            x.redo();
            x.mend(0, 8, 1);
            x.mend(0, 1, 0);
            x.mend(1, 1, 0);
            x.undo();
            x.keep(3, -1);
        }
        return x;
    }

    private static void tape(NailedByWord x, String letters) {
        for (int i = 0; i < letters.length(); i++) {
            x.feed(letters.charAt(i));
        }
        for (int i = 0; i < 120 && letters.length() > 60; i++) {
            x.feed('+' + i % 2 * 5);
        }
    }

    private static void compare(int state, String what, NailedByWord asked, NailedByWord unasked) {
        compareViews(state, what, asked, unasked);
        for (int i = 0; i < 41; i++) {
            same(state, what + ", then redo", asked.redo(), unasked.redo());
        }
        compareViews(state, what + ", all done again", asked, unasked);
        for (int i = 0; i < 41; i++) {
            same(state, what + ", then undo", asked.undo(), unasked.undo());
        }
        compareViews(state, what + ", all undone", asked, unasked);
        same(state, what + ", then back", asked.back(), unasked.back());
        same(state, what + ", then law", asked.law(), unasked.law());
        compareViews(state, what + ", laid back, with the law", asked, unasked);
    }

    private static void compareViews(int state, String what, NailedByWord asked, NailedByWord unasked) {
        long[] a = view(asked);
        long[] b = view(unasked);
        for (int i = 0; i < a.length; i++) {
            same(state, what + ": number " + i + " of the view", a[i], b[i]);
        }
    }

    /** All that can be asked without a change. */
    private static long[] view(NailedByWord x) {
        List<Long> all = new ArrayList<>();
        for (int number = 0; number < 12; number++) {
            for (int what = 0; what < 12; what++) {
                all.add((long) x.of(number, what));
            }
            all.add((long) x.hard(number));
            all.add((long) x.trace(number));
        }
        for (int what = 0; what < 6; what++) {
            all.add((long) x.count(what));
            all.add((long) x.led(what));
            all.add((long) x.taken(what, 0));
            all.add((long) x.held(what, 0));
            all.add((long) x.shift(what, 0, what, 0, 0));
            for (int i = 0; i < 61; i++) {
                all.add(x.element(what, i));
            }
        }
        long[] numbers = new long[all.size()];
        for (int i = 0; i < numbers.length; i++) {
            numbers[i] = all.get(i);
        }
        return numbers;
    }
}
