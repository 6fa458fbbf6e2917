import java.lang.reflect.Method;
import java.util.ArrayList;
import java.util.List;
import java.util.Random;

/** Runs of drawn calls (always the same ones) on the class and on PlainTown: each answer must be alike. */
public final class RandomRunsTest {
    private static final int RUNS = 900;
    private static final int CALLS = 512;
    private static final String[] LAWS = {
        "w", "w-d/9+o-f*4+b/3+y%2", "o*3", "9-o*2", "3-o+f", "b*2", "9-b*3", "b>1?5;w/2+o", "f?0;9", "f*9",
        "!f*4", "d<3?9;w/2-f*3", "y%3=0?9;2", "y%5", "w>4&!f|o>1?6;o", "5-f*9+o*2", "o=1?1;9", "(o+b)%4*3",
        "w*w%7", "-w+9", "o>2?0;o>0?9;w", "d%4", "w-o*3", "0?1", "9999*9999*9999/0+3", "-(w-9)%3+2",
        "o<2|b<2?w;1", "((((((w))))))", "!!!!!!w*5", "w/(d-d)+4", "2", "3", "b-1", "b=2?9;1", "f=o?4;2",
    };

    private RandomRunsTest() {
    }

    public static void main(String[] args) throws Exception {
        int wrong = 0;
        for (int run = 0; run < RUNS && wrong < 5; run++) {
            wrong += new RandomRunsTest().drawnRun(run) ? 0 : 1;
        }
        System.out.println(wrong == 0 ? "drawn runs: all answers alike" : "drawn runs: " + wrong + " runs not alike");
        System.exit(wrong == 0 ? 0 : 1);
    }

    private final NailedByWord town = new NailedByWord();
    private final PlainTown plain = new PlainTown();
    private final List<String> told = new ArrayList<>();
    private Random draws;
    private boolean alike = true;
    private int wild;

    private boolean drawnRun(int run) throws Exception {
        draws = new Random(7919L * run + 1);
        // Some runs hold to calls that are as said, some do not.
        wild = run % 3 == 0 ? 8 : 60;
        int people = 2 + draws.nextInt(5);
        for (int i = 0; i < people; i++) {
            both("person", draws.nextBoolean() ? 12 : draws.nextInt(25));
        }
        for (int i = 0; i < 25 && alike; i++) {
            aPromise();
        }
        while (told.size() < CALLS && alike) {
            aCall();
        }
        if (!alike) {
            System.out.println("run " + run + ":");
            told.forEach(System.out::println);
        }
        return alike;
    }

    private int draw(int least, int most) {
        if (draws.nextInt(wild) == 0) {
            int[] odd = {least - 1, most + 1, -1, Integer.MIN_VALUE, Integer.MAX_VALUE, least - 10, most + 10};
            return odd[draws.nextInt(odd.length)];
        }
        return least + draws.nextInt(most - least + 1);
    }

    private int one() {
        return draw(0, 5);
    }

    private int pair() {
        return 10 * draws.nextInt(6) + draw(0, 5);
    }

    private void aPromise() throws Exception {
        int by = draws.nextInt(3);
        both("promise", 10 * by + draws.nextInt(6), 100 * draw(0, 9) + (draws.nextBoolean() ? 99 : draws.nextInt(100)));
        if (draws.nextInt(3) == 0) {
            both("mend", draw(0, 11), 2, draws.nextBoolean() ? 12 : draw(0, 24));
        }
    }

    private void aLaw() throws Exception {
        String text = LAWS[draws.nextInt(LAWS.length)];
        if (draws.nextInt(3) == 0) {
            int at = draws.nextInt(text.length());
            text = text.substring(0, at) + "()!-+*/%<=>|&?;wdbofy0123456789 ".charAt(draws.nextInt(32))
                + text.substring(at + draws.nextInt(2));
        }
        for (char c : text.toCharArray()) {
            both("feed", c);
        }
        if (draws.nextInt(20) != 0) {
            both("law");
        }
    }

    private void aRow() throws Exception {
        int shelf = draw(0, 5);
        int n = draws.nextInt(4) == 0 ? draw(0, 60) : draws.nextInt(12);
        both("row", shelf, draws.nextInt(4) == 0 ? draw(0, 4) : 0, n);
        int form = draws.nextInt(4);
        for (int i = 0; i < n && i < 35; i++) {
            long v = switch (form) {
                case 0 -> draws.nextInt(5);
                case 1 -> draws.nextInt(3) == 0 ? draws.nextInt(25) : 99;
                case 2 -> new int[] {draws.nextInt(3), draws.nextInt(6), 12, draws.nextInt(10), draws.nextInt(100)}[i % 5];
                default -> draws.nextLong();
            };
            both("put", shelf, i, v);
        }
    }

    /** What was seen of one on a walk that he could go, but for some letters. */
    private void aSight() throws Exception {
        int shelf = draws.nextInt(6);
        int n = 2 + draws.nextInt(8);
        both("row", shelf, 0, n);
        int place = draws.nextInt(3) == 0 ? draws.nextInt(25) : Math.max(0, plain.of(draws.nextInt(3), 0));
        for (int i = 0; i < n; i++) {
            both("put", shelf, i, draws.nextInt(3) == 0 ? 99L : place);
            int to = place + new int[] {0, 0, 0, 1, -1, 5, -5}[draws.nextInt(7)];
            place = to < 0 || to > 24 ? place : to;
        }
    }

    private void aMend() throws Exception {
        int what = draw(0, 9);
        int most = what >= 0 && what < 10 ? new int[] {24, 9, 24, 9, 99, 99, 1, 1, 9, 99}[what] : 5;
        int number = what >= 8 ? draws.nextInt(12) / 11 : draws.nextInt(12);
        int v = what == 0 || what == 2 ? draws.nextInt(3) != 0 ? 12 : draw(0, most) : draw(0, most);
        if ((what == 5 || what == 4) && draws.nextBoolean()) {
            v = Math.max(0, plain.of(0, 9)) + (what == 5 ? draws.nextInt(6) : -draws.nextInt(4));
        }
        both("mend", number, what, v);
    }

    private void aDeed() throws Exception {
        switch (draws.nextInt(11)) {
            case 0, 1 -> both("step", one(), draw(0, 4));
            case 2 -> both("pull", draw(0, 11));
            case 3 -> both("letOff", draw(0, 11));
            case 4 -> both("forget", draw(0, 11));
            case 5 -> both("day");
            case 6 -> both("led", draw(0, 5));
            case 7 -> both(draws.nextInt(3) == 0 ? "image" : "back");
            case 8 -> both("undo");
            case 9 -> both("redo");
            default -> both("person", draw(0, 24));
        }
    }

    private void aThought() throws Exception {
        int who = draws.nextInt(4) == 0 ? one() : draws.nextInt(3);
        switch (draws.nextInt(20)) {
            case 0 -> both("hard", draw(0, 11));
            case 1 -> both("route", draw(0, 5), draw(0, 30), who, draw(0, 3));
            case 2 -> both("held", who, draw(0, 1));
            case 3 -> both("best", who, draw(0, 4), draw(-1, 3));
            case 4 -> both("soonest", who, draw(0, 24));
            case 5 -> both("free", who);
            case 6 -> both("words", who, draw(0, 1));
            case 7 -> both("all", draw(0, 1));
            case 8 -> both("ring");
            case 9, 10 -> both("breaks", who, draw(0, 1));
            case 11 -> both("judge", 10 * draws.nextInt(6) + draw(0, 5), who);
            case 12 -> both("can", draw(0, 5), who);
            case 13 -> both("who", draw(0, 5));
            case 14 -> both("feeds", draw(0, 24), draw(-1, 6));
            case 15, 16 -> both("odds", who, draw(0, 1));
            case 17 -> both("rued", who, draw(0, 8));
            case 18 -> both("byTurns", pair(), draw(0, 24), draw(1, 5), draw(0, 1));
            default -> both("drawn", draws.nextInt(), 100 * (1 + draws.nextInt(4)) + draw(1, 40), who, draw(-1, 24));
        }
    }

    private void anAct() throws Exception {
        switch (draws.nextInt(9)) {
            case 0 -> both("body", draw(0, 7));
            case 1, 2 -> {
                both("act", draw(0, 12), draw(0, 3), draws.nextInt(4) == 0 ? draws.nextInt() : draws.nextInt(9));
                both("count", 5);
                for (int i = 0; i < 4; i++) {
                    both("trace", draw(0, 9));
                }
            }
            case 3 -> both("keep", draw(0, 5), draw(-1, 9));
            case 4 -> both("element", draw(0, 5), draw(0, 12));
            case 5 -> both("shift", draw(0, 5), draw(0, 8), draw(0, 5), draw(0, 8), draw(0, 5));
            case 6 -> both("taken", draw(0, 5), draw(0, 7));
            case 7 -> both("count", draw(0, 5));
            default -> both("of", draws.nextInt(12), draw(0, 11));
        }
    }

    private void aCall() throws Exception {
        switch (draws.nextInt(24)) {
            case 0 -> aLaw();
            case 1 -> aRow();
            case 2 -> aSight();
            case 3 -> both("promises", draw(0, 5), draw(0, 12), draw(1, 12));
            case 4 -> aPromise();
            case 5, 6, 7 -> aMend();
            case 8, 9 -> aDeed();
            case 10, 11, 12 -> anAct();
            default -> aThought();
        }
    }

    private void both(String name, long... args) throws Exception {
        if (!alike || told.size() >= CALLS) {
            return;
        }
        Object got = ask(town, name, args);
        Object due = ask(plain, name, args);
        told.add("  " + name + java.util.Arrays.toString(args) + " answered " + got);
        if (!got.equals(due)) {
            alike = false;
            told.add("  due is " + due);
        }
    }

    private static Object ask(Object on, String name, long[] args) throws Exception {
        for (Method m : on.getClass().getMethods()) {
            if (m.getName().equals(name) && m.getParameterCount() == args.length) {
                Object[] given = new Object[args.length];
                for (int i = 0; i < args.length; i++) {
                    given[i] = m.getParameterTypes()[i] == long.class ? (Object) args[i] : (Object) (int) args[i];
                }
                return ((Number) m.invoke(on, given)).longValue();
            }
        }
        throw new IllegalArgumentException(name);
    }
}
