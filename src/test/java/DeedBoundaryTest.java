/** Sections 4 and 5 of the document: what each sentence says of the least, the most, and beyond. */
public final class DeedBoundaryTest {
    private static final int BAD = Sentences.BAD, FULL = Sentences.FULL, STATE = Sentences.STATE;
    private static final int MISSING = Sentences.MISSING, OTHER_KIND = Sentences.OTHER_KIND;
    private static final int NO_PLACE = Sentences.NO_PLACE, BELOW_0 = Sentences.BELOW_0;
    private static final int LEAST = Sentences.LEAST, MOST = Sentences.MOST;
    private static Sentences s;

    private DeedBoundaryTest() {
    }

    public static void main(String[] args) throws Exception {
        s = new Sentences();
        drawn();
        deeds();
        led();
        changes();
        fortyChanges();
        deedsAreNoChanges();
        image();
        countAsSteps();
        bodies();
        kinds();
        trace();
        shelves();
        lowestBits();
        refusals();
        promisesFromARow();
        theOneNamedFirst();
        constants();
        manyCalls();
        s.end();
    }

    private static void drawn() {
        s.says("DRAWN: n years (1 .. 30) of m days (1 .. 40) of one from now by a SEED");
        NailedByWord x = Sentences.nailed(1, 9);
        int[] bad = {0, 1, 40, 99, 100, 141, 199, 3000, 3041, 3101, 3140, -1, -101, -3040, LEAST, MOST};
        for (int nm : bad) {
            s.due("nm " + nm, x.drawn(7, nm, 0, -1), BAD);
        }
        s.due("a year of a day", x.drawn(7, 101, 0, -1), 1);
        s.due("30 years of 40 days", x.drawn(7, 3040, 0, -1), 1200);
        s.due("always there", x.drawn(7, 3040, 0, 12), 30);
        s.due("a year of 40 days", x.drawn(7, 140, 0, -1), 40);
        s.due("30 years of a day", x.drawn(7, 3001, 0, -1), 30);
        x.mend(0, 5, 9);
        s.due("each from now", x.drawn(7, 3010, 0, -1), 300);
        x.mend(0, 9, 90);
        x.mend(0, 5, 99);
        s.due("99 stays", x.drawn(7, 3040, 0, -1), 1200);
        s.says("z = z * 1103515245 + 12345 (an int; SEED at first) ahead of each day: STEP (z >>> 8) % 5,"
            + " as far as he is not HELD");
        int[] seeds = {0, 1, -1, 7, MOST, LEAST};
        NailedByWord y = Sentences.town(12);
        for (int seed : seeds) {
            int way = ((seed * 1103515245 + 12345) >>> 8) % 5;
            int due = 12 + new int[] {-5, 1, 5, -1, 0}[way];
            for (int place = 0; place < 25; place++) {
                s.due("seed " + seed + " at " + place, y.drawn(seed, 101, 0, place), place == due ? 1 : 0);
            }
        }
        drawsGoOn(y);
        s.says("on how many days he was HELD, all together; how often he is at a told PLACE at the end.");
        s.due("never held", y.drawn(5, 3040, 0, -1), 0);
        int all = 0;
        for (int place = 0; place < 25; place++) {
            all += y.drawn(5, 3040, 0, place);
        }
        s.due("at some place at the end of each year", all, 30);
        s.due("place 25", y.drawn(5, 101, 0, 25), BAD);
        s.due("place -2", y.drawn(5, 101, 0, -2), BAD);
        s.due("he stays where he is in deed", y.of(0, 0), 12);
    }

    /** All draws of 30 years of 40 days, by hand. */
    private static void drawsGoOn(NailedByWord y) {
        int[] ends = new int[25];
        int z = 123456789;
        for (int year = 0; year < 30; year++) {
            int place = 12;
            for (int day = 0; day < 40; day++) {
                z = z * 1103515245 + 12345;
                int way = (z >>> 8) % 5;
                boolean stays = way == 0 && place < 5 || way == 1 && place % 5 == 4 || way == 2 && place > 19
                    || way == 3 && place % 5 == 0;
                place += stays ? 0 : new int[] {-5, 1, 5, -1, 0}[way];
            }
            ends[place]++;
        }
        for (int place = 0; place < 25; place++) {
            s.due("the draws go on, at " + place, y.drawn(123456789, 3040, 0, place), ends[place]);
        }
    }

    private static void deeds() {
        s.says("a PROMISE is made AT where BY stands (from today on, TILL told)");
        NailedByWord x = Sentences.town(24, 0);
        x.mend(0, 9, 99);
        s.due("on the last day", x.promise(1, 999), 0);
        s.due("from", x.of(0, 4), 99);
        s.due("at", x.of(0, 2), 24);
        s.due("held at once", x.held(0, 0), 1);
        s.due("till 0 is over", x.promise(10, 900), 1);
        s.due("till", x.of(1, 5), 0);
        s.due("not held", x.held(1, 0), 0);
        s.says("one PULLS (breaks a PROMISE that HOLDS him: a BOOT less)");
        NailedByWord y = Sentences.nailed(2, 9);
        y.mend(0, 1, 1);
        s.due("the last boot", y.pull(1), 0);
        s.due("broken", y.of(1, 7), 1);
        s.due("no boot for the other", y.pull(0), STATE);
        s.due("it holds on", y.held(0, 0), 1);
        y.mend(0, 1, 9);
        s.due("of nine boots", y.pull(0), 8);
        s.says("a PROMISE is let off by TO; one FORGETS; a DAY passes.");
        NailedByWord z = Sentences.nailed(1, 0);
        z.mend(0, 9, 99);
        s.due("99 stays", z.day(), 99);
        z.mend(0, 9, 98);
        s.due("98 does not", z.day(), 99);
        s.due("let off", z.letOff(0), 1);
        s.due("forgot", z.forget(0), 1);
        s.due("let off already", z.letOff(0), STATE);
        s.due("forgot already", z.forget(0), STATE);
    }

    private static void led() {
        s.says("LED: made, steps, in vain (HELD), pulled, let off, days.");
        NailedByWord x = Sentences.town(12, 0);
        for (int what = 0; what < 6; what++) {
            s.due("at first", x.led(what), 0);
        }
        x.promise(0, 999);
        x.step(0, 5);
        x.step(2, 0);
        x.pull(0);
        x.letOff(0);
        for (int what = 0; what < 5; what++) {
            s.due("refused calls are none", x.led(what), 0);
        }
        x.promise(1, 999);
        s.due("made", x.led(0), 1);
        x.step(1, 1);
        s.due("steps", x.led(1), 1);
        x.step(0, 1);
        s.due("in vain", x.led(2), 1);
        s.due("which is no step", x.led(1), 1);
        x.pull(0);
        s.due("pulled", x.led(3), 1);
        x.pull(0);
        s.due("pulled once", x.led(3), 1);
        x.letOff(0);
        s.due("gone: not let off", x.led(4), 0);
        x.promise(1, 999);
        x.letOff(1);
        s.due("let off", x.led(4), 1);
        x.letOff(1);
        s.due("let off once", x.led(4), 1);
        x.forget(1);
        s.due("made", x.led(0), 2);
        x.day();
        x.mend(0, 9, 99);
        x.day();
        s.due("days", x.led(5), 2);
        for (int p = 2; p < 12; p++) {
            x.promise(1, 999);
        }
        x.promise(1, 999);
        s.due("what is full was not made", x.led(0), 12);
    }

    private static void changes() {
        s.says("CHANGES (all numbers of mend(); telling the same number is none) can be UNDONE, the latest first,"
            + " and DONE AGAIN (as long as no other came behind)");
        NailedByWord x = Sentences.nailed(1, 5);
        int[] same = {12, 3, 12, 5, 0, 99, 0, 0, 3, 0};
        for (int what = 0; what < 10; what++) {
            s.due("the same, what " + what, x.mend(0, what, same[what]), same[what]);
            s.due("is none", x.count(3), 0);
        }
        s.due("nothing to undo", x.undo(), STATE);
        s.due("nothing to do again", x.redo(), STATE);
        int[] other = {13, 4, 14, 6, 1, 98, 1, 1, 4, 2};
        for (int what = 0; what < 10; what++) {
            x.mend(0, what, other[what]);
            s.due("one more", x.count(3), what + 1);
        }
        s.due("nothing was undone", x.redo(), STATE);
        for (int what = 9; what >= 0; what--) {
            s.due("the latest first: how many may still be", x.undo(), what);
            s.due("what it was", x.of(0, what), same[what]);
        }
        s.due("all are undone", x.undo(), STATE);
        for (int what = 0; what < 10; what++) {
            s.due("the latest undone first: how many may still be", x.redo(), 9 - what);
            s.due("what it became", x.of(0, what), other[what]);
        }
        s.due("all are done again", x.redo(), STATE);
        x.undo();
        x.undo();
        s.due("the same number is none", x.mend(0, 0, 13), 13);
        s.due("so it may be done again", x.redo(), 1);
        s.due("another one comes behind", x.mend(0, 0, 0), 13);
        s.due("it may not", x.redo(), STATE);
        s.due("day is as it was", x.of(0, 9), 0);
        s.due("nine, and the other one", x.count(3), 10);
    }

    private static void fortyChanges() {
        s.says("40 at most are kept");
        NailedByWord x = new NailedByWord();
        for (int day = 1; day <= 40; day++) {
            x.mend(0, 9, day);
            s.due("kept", x.count(3), day);
        }
        x.mend(0, 9, 41);
        s.due("40", x.count(3), 40);
        x.mend(0, 9, 42);
        s.due("40", x.count(3), 40);
        for (int left = 39; left >= 0; left--) {
            s.due("undone", x.undo(), left);
            s.due("day", x.of(0, 9), left + 2);
        }
        s.due("the first two stay", x.undo(), STATE);
        s.due("day", x.of(0, 9), 2);
        for (int left = 39; left >= 0; left--) {
            s.due("done again", x.redo(), left);
        }
        s.due("all", x.redo(), STATE);
        s.due("day", x.of(0, 9), 42);
        s.due("may be undone", x.count(3), 40);
    }

    private static void deedsAreNoChanges() {
        s.says("deeds are none (PLACE, BOOTS, FORGOT, GONE, DAY by them, too)");
        NailedByWord x = Sentences.nailed(2, 9);
        x.mend(1, 1, 5);
        x.mend(1, 1, 6);
        x.undo();
        x.step(1, 1);
        x.pull(0);
        x.letOff(1);
        x.forget(1);
        x.day();
        x.promise(1, 500);
        x.person(3);
        s.due("one change", x.count(3), 1);
        s.due("which is done again all the same", x.redo(), 0);
        s.due("boots", x.of(1, 1), 6);
        s.due("undone", x.undo(), 1);
        s.due("undone", x.undo(), 0);
        s.due("no deed is", x.undo(), STATE);
        int[][] stay = {{1, 0, 1}, {0, 1, 2}, {1, 6, 1}, {0, 7, 1}, {1, 7, 1}, {0, 9, 1}};
        for (int[] n : stay) {
            s.due("number " + n[0] + " what " + n[1], x.of(n[0], n[1]), n[2]);
        }
    }

    private static void image() {
        s.says("AN IMAGE keeps PLACES, BOOTS of PEOPLE, FORGOT, GONE of PROMISES, DAY, what LED tells.");
        NailedByWord x = Sentences.nailed(2, 9);
        s.due("none yet", x.back(), STATE);
        s.due("taken", x.image(), 0);
        x.step(1, 1);
        x.step(0, 1);
        x.pull(0);
        x.letOff(1);
        x.forget(1);
        x.day();
        x.promise(10, 100);
        x.mend(1, 1, 9);
        x.mend(0, 3, 1);
        x.mend(0, 8, 9);
        s.due("laid back", x.back(), 0);
        int[][] then = {{0, 0, 12}, {1, 0, 0}, {0, 1, 3}, {1, 1, 3}, {0, 6, 0}, {1, 6, 0}, {0, 7, 0}, {1, 7, 0}, {0, 9, 0}};
        for (int[] n : then) {
            s.due("number " + n[0] + " what " + n[1], x.of(n[0], n[1]), n[2]);
        }
        int[] led = {2, 0, 0, 0, 0, 0};
        for (int what = 0; what < 6; what++) {
            s.due("led " + what, x.led(what), led[what]);
        }
        s.due("not weight", x.of(0, 3), 1);
        s.due("not holds", x.of(0, 8), 9);
        s.due("what came since is there", x.count(1), 3);
        s.due("changes are as they are", x.count(3), 3);
        NailedByWord z = Sentences.nailed(12, 5);
        for (int p = 1; p < 12; p += 2) {
            z.forget(p);
            z.letOff(p - 1);
        }
        z.image();
        for (int p = 0; p < 12; p++) {
            z.mend(p, 6, 1 - p % 2);
            z.mend(p, 7, p % 2);
        }
        z.back();
        for (int p = 0; p < 12; p++) {
            s.due("forgot, " + p, z.of(p, 6), p % 2);
            s.due("gone, " + p, z.of(p, 7), 1 - p % 2);
        }
        NailedByWord y = new NailedByWord();
        s.due("an image of nobody", y.image(), 0);
        for (int i = 0; i < 6; i++) {
            y.person(4 * i);
        }
        y.promise(1, 999);
        y.forget(0);
        s.due("laid back", y.back(), 0);
        s.due("all six are there", y.of(5, 0), 20);
        s.due("forgot since", y.of(0, 6), 1);
        s.due("made is told as it was", y.led(0), 0);
    }

    private static void countAsSteps() {
        s.says("ALSO: a STEP 4, and one over the edge, count as STEPS.");
        NailedByWord x = Sentences.town(0, 24);
        x.step(0, 4);
        s.due("4", x.led(1), 1);
        x.step(0, 0);
        x.step(0, 3);
        x.step(1, 1);
        x.step(1, 2);
        s.due("over each edge", x.led(1), 5);
        s.due("none in vain", x.led(2), 0);
        x.promise(1, 999);
        x.step(0, 4);
        x.step(0, 0);
        s.due("but not of one who is held", x.led(1), 5);
        s.due("in vain", x.led(2), 2);
    }

    private static void bodies() {
        s.says("BODIES 0 .. 49 are kept by call");
        NailedByWord x = new NailedByWord();
        s.due("none yet", x.keep(0, 0), BAD);
        for (int i = 0; i < 50; i++) {
            s.due("one more", x.body(0), i);
            s.due("it is there", x.act(i, 0, 100), 100 + i);
            s.due("the next is not", x.act(i + 1, 0, 100), 0);
        }
        s.due("no 50", x.body(0), FULL);
        s.due("49", x.keep(0, 49), 1);
        s.due("50", x.keep(0, 50), BAD);
        s.says("ACTS with x (an int that wraps)");
        s.due("holds", x.act(49, 0, MOST), MOST + 49);
        s.due("pulls", x.act(49, 1, MOST), (MOST + 49) * 2);
        s.due("frees", x.act(49, 2, LEAST), LEAST ^ 49);
        s.due("tells", x.act(0, 3, 1 << 30), LEAST - 1);
        NailedByWord y = new NailedByWord();
        for (int kind = 0; kind < 8; kind++) {
            y.body(kind);
        }
        s.due("lace pulls", y.act(2, 1, (1 << 30) - 2), LEAST);
        s.due("heel pulls", y.act(3, 1, MOST), -((LEAST + 3) * 2));
        s.due("heel frees", y.act(3, 2, MOST), (MOST ^ 3) * 3);
        s.due("sole holds", y.act(1, 0, MOST), LEAST + 3);
        s.due("pitt holds", y.act(6, 0, MOST), (MOST + 6) * 2);
        s.due("child holds", y.act(7, 0, LEAST), (LEAST + 7) * 2 - 1);
    }

    private static void kinds() {
        s.says("holds(..) and so on: the body of its own KIND, or of the next KIND above that has one; super: from the KIND"
            + " above the body's on.");
        NailedByWord x = new NailedByWord();
        for (int kind = 0; kind < 8; kind++) {
            x.body(kind);
        }
        int[][] firsts = {{1, 10, 11, 2}, {20, 10, 11, 2}, {1, 30, 11, 2}, {1, 41, 40, 2}, {20, 10, 11, 50}, {1, 41, 60, 61},
            {70, 10, 11, 2}, {81, 80, 11, 2}};
        int[][] lasts = {{1, 1, 11, 11}, {1, 1, 11, 11}, {1, 1, 11, 11}, {1, 1, 11, 11}, {1, 1, 11, 11}, {1, 1, 1, 1},
            {1, 1, 11, 11}, {1, 11, 11, 11}};
        for (int kind = 0; kind < 8; kind++) {
            for (int act = 0; act < 4; act++) {
                x.act(kind, act, 1);
                s.due("kind " + kind + ", act " + act + " begins", x.trace(0), firsts[kind][act]);
                s.due("kind " + kind + ", act " + act + " ends", x.trace(x.count(5) - 1), lasts[kind][act]);
            }
        }
    }

    private static void trace() {
        s.says("THE TRACE: numbers of the bodies that ran in the latest act(), as they began; the first 24 are kept.");
        NailedByWord x = new NailedByWord();
        s.due("no act yet", x.trace(0), BAD);
        s.due("no act yet", x.count(5), 0);
        x.body(5);
        x.act(0, 3, 1);
        int[] most = {61, 2, 41, 30, 10, 1, 60, 40, 11, 1};
        for (int i = 0; i < 10; i++) {
            s.due("the longest, " + i, x.trace(i), most[i]);
        }
        s.due("behind it", x.trace(10), BAD);
        s.due("ahead of it", x.trace(-1), BAD);
        s.due("23", x.trace(23), BAD);
        s.due("24", x.trace(24), BAD);
        x.act(0, 0, 1);
        s.due("the latest", x.trace(0), 1);
        s.due("and no more", x.trace(1), BAD);
        x.act(1, 0, 1);
        s.due("no such body: no trace", x.trace(0), BAD);
        s.due("none ran", x.count(5), 0);
    }

    private static void shelves() {
        s.says("SHELVES 0 .. 5 each hold nothing (at first), a BODY, or a ROW: of 0 bytes, 1 shorts, 2 ints, 3 longs,"
            + " 4 booleans, of 0 .. 60 elements, 0 at first (false)");
        NailedByWord x = new NailedByWord();
        x.body(0);
        int[] no = {-1, 6, LEAST, MOST};
        for (int shelf : no) {
            s.due("row on " + shelf, x.row(shelf, 0, 1), BAD);
            s.due("keep on " + shelf, x.keep(shelf, 0), BAD);
            s.due("taken from " + shelf, x.taken(shelf, 0), BAD);
            s.due("put on " + shelf, x.put(shelf, 0, 0), BAD);
        }
        for (int shelf = 0; shelf < 6; shelf++) {
            s.due("nothing at first", x.taken(shelf, 0), MISSING);
        }
        for (int sort = 0; sort < 5; sort++) {
            s.due("no elements", x.row(sort, sort, 0), 1);
            s.due("none", x.put(sort, 0, 1), NO_PLACE);
            s.due("60", x.row(sort, sort, 60), 1);
            for (int i = 0; i < 60; i++) {
                s.due("0 at first", x.element(sort, i), 0);
                x.put(sort, i, 1);
            }
            s.due("no 60", x.put(sort, 60, 1), NO_PLACE);
            s.due("61", x.row(sort, sort, 61), BAD);
            s.due("as it was", x.element(sort, 59), 1);
            s.due("a new row", x.row(sort, sort, 60), 1);
            for (int i = 0; i < 60; i++) {
                s.due("0 at first again", x.element(sort, i), 0);
            }
        }
        s.due("sort -1", x.row(5, -1, 1), BAD);
        s.due("sort 5", x.row(5, 5, 1), BAD);
        s.due("still nothing", x.taken(5, 0), MISSING);
    }

    private static void lowestBits() {
        s.says("what is put in keeps its lowest bits (a boolean: whether it is not 0; 1 or 0)");
        NailedByWord x = new NailedByWord();
        long[] values = {127, 128, 255, 256, -128, -129, 32767, 32768, 65536, -32769, Integer.MAX_VALUE,
            Integer.MAX_VALUE + 1L, 1L << 32, Long.MAX_VALUE, Long.MIN_VALUE + 1, -1, 0};
        for (int sort = 0; sort < 5; sort++) {
            x.row(sort, sort, 1);
            for (long v : values) {
                long[] due = {(byte) v, (short) v, (int) v, v, v != 0 ? 1 : 0};
                s.due("put", x.put(sort, 0, v), 1);
                s.due("sort " + sort + ", " + v, x.element(sort, 0), due[sort]);
            }
        }
        x.put(4, 0, Long.MIN_VALUE);
        s.due("a boolean of the highest bit", x.element(4, 0), 1);
        x.put(0, 0, Long.MIN_VALUE);
        s.due("a byte of the highest bit", x.element(0, 0), 0);
    }

    private static void refusals() {
        s.says("The host's REFUSALS: -11 nothing is there where something is wanted; -12 it is of another kind;"
            + " -13 a place that is not there; -14 a size below 0.");
        NailedByWord x = Sentences.town(12);
        x.body(3);
        x.keep(1, 0);
        x.row(2, 1, 3);
        x.row(3, 0, 3);
        s.due("route by nothing", x.route(0, 1, 0, 0), MISSING);
        s.due("route by a body", x.route(1, 1, 0, 0), OTHER_KIND);
        s.due("route by shorts", x.route(2, 1, 0, 0), OTHER_KIND);
        s.due("can by nothing", x.can(0, 0), MISSING);
        s.due("can by a body", x.can(1, 0), OTHER_KIND);
        s.due("who by nothing", x.who(0), MISSING);
        s.due("who by shorts", x.who(2), OTHER_KIND);
        s.due("judge by nothing", x.judge(3, 0), MISSING);
        s.due("judge of nothing", x.judge(30, 0), MISSING);
        s.due("judge by a body", x.judge(13, 0), OTHER_KIND);
        s.due("judge of a body", x.judge(31, 0), OTHER_KIND);
        s.due("put to nothing", x.put(0, 0, 1), MISSING);
        s.due("put to a body", x.put(1, 0, 1), OTHER_KIND);
        s.due("put behind", x.put(2, 3, 1), NO_PLACE);
        s.due("put ahead", x.put(2, -1, 1), NO_PLACE);
        s.due("taken from nothing", x.taken(0, 0), MISSING);
        s.due("taken from a row", x.taken(2, 0), OTHER_KIND);
        s.due("taken from a body of another kind", x.taken(1, 1), OTHER_KIND);
        s.due("shift from nothing", x.shift(0, 0, 2, 0, 1), MISSING);
        s.due("shift to nothing", x.shift(2, 0, 0, 0, 1), MISSING);
        s.due("shift from a body", x.shift(1, 0, 2, 0, 1), OTHER_KIND);
        s.due("shift of shorts to bytes", x.shift(2, 0, 3, 0, 1), OTHER_KIND);
        s.due("shift behind", x.shift(2, 1, 2, 0, 3), NO_PLACE);
        s.due("a size below 0", x.row(0, 0, -1), BELOW_0);
        s.due("the least size", x.row(0, 4, LEAST), BELOW_0);
        s.due("still nothing", x.put(0, 0, 1), MISSING);
    }

    private static void promisesFromARow() {
        s.says("PROMISES FROM A ROW of bytes, from place i on: by fives BY, TO, AT, WEIGHT, TILL: n of them (FROM today);"
            + " it ends where the row is missing, ends (within a five, too), one is not as it may be, or PROMISES are FULL:"
            + " those ahead came.");
        NailedByWord x = Sentences.town(12, 0);
        x.mend(0, 9, 99);
        s.due("it is missing", x.promises(0, 0, 1), 0);
        x.row(0, 0, 0);
        s.due("it is empty", x.promises(0, 0, 1), 0);
        Sentences.bytes(x, 0, 0, 1, 24, 9, 99);
        for (int i = -6; i < 8; i++) {
            if (i != 0) {
                s.due("from " + i + " on there are no five", x.promises(0, i, 1), 0);
            }
        }
        s.due("far behind", x.promises(0, MOST, 12), 0);
        s.due("near the greatest int", x.promises(0, MOST - 4, 12), 0);
        s.due("far ahead", x.promises(0, LEAST, 12), 0);
        s.due("just five", x.promises(0, 0, 12), 1);
        s.due("from today", x.of(0, 4), 99);
        int[] two = {0, 1, 0, 0, 0, 0, 1, 0, 0, 0};
        for (int n = 6; n < 10; n++) {
            Sentences.bytes(x, 1, java.util.Arrays.copyOf(two, n));
            s.due("it ends within the second five, of " + n, x.promises(1, 0, 2), 1);
        }
        s.due("came", x.count(1), 5);
        int[][] amiss = {{6, 1, 0, 0, 0}, {2, 1, 0, 0, 0}, {-1, 1, 0, 0, 0}, {0, 2, 0, 0, 0}, {0, -1, 0, 0, 0}, {1, 1, 0, 0, 0},
            {0, 1, 25, 0, 0}, {0, 1, -1, 0, 0}, {0, 1, 0, 10, 0}, {0, 1, 0, -1, 0}, {0, 1, 0, 0, 100}, {0, 1, 0, 0, -1}};
        for (int[] five : amiss) {
            Sentences.bytes(x, 2, five[0], five[1], five[2], five[3], five[4], 0, 1, 0, 0, 0);
            s.due("the first is amiss", x.promises(2, 0, 2), 0);
        }
        Sentences.bytes(x, 2, 0, 1, 0, 0, 0, 0, 1, 24, 9, 99, 0, 0, 0, 0, 0, 0, 1, 0, 0, 0);
        s.due("the third is amiss", x.promises(2, 0, 4), 2);
        s.due("only n", x.promises(2, 0, 1), 1);
        s.due("came", x.count(1), 8);
        int[] twelve = new int[60];
        for (int i = 0; i < 12; i++) {
            twelve[5 * i + 1] = 1;
        }
        Sentences.bytes(x, 3, twelve);
        s.due("till it is full", x.promises(3, 0, 12), 4);
        s.due("full", x.promises(3, 0, 12), 0);
        s.due("twelve", x.count(1), 12);
        s.due("led none", x.led(0), 0);
        NailedByWord y = Sentences.town(12, 0);
        Sentences.bytes(y, 3, twelve);
        s.due("all twelve at once", y.promises(3, 0, 12), 12);
        NailedByWord z = new NailedByWord();
        Sentences.bytes(z, 3, twelve);
        s.due("nobody there", z.promises(3, 0, 12), 0);
    }

    private static void theOneNamedFirst() {
        s.says("Answers, of several the one named first: BAD (-1): no such number, or it is not as said; NOT (-2): as told;"
            + " FULL (-3); STATE (-5): as told; -11 to -14.");
        NailedByWord x = Sentences.town(0, 1, 2, 3, 4, 5);
        s.due("BAD, then FULL of people", x.person(25), BAD);
        for (int i = 0; i < 12; i++) {
            x.promise(1, 999);
        }
        s.due("BAD, then FULL of promises", x.promise(1, 1000), BAD);
        s.due("BAD, then FULL of promises", x.promise(0, 999), BAD);
        for (int i = 0; i < 120; i++) {
            x.feed(1);
        }
        s.due("BAD, then FULL of the tape", x.feed(-1), BAD);
        for (int i = 0; i < 50; i++) {
            x.body(0);
        }
        s.due("BAD, then FULL of bodies", x.body(-1), BAD);
        s.due("BAD, then nothing there", x.route(0, 31, 0, 0), BAD);
        s.due("BAD, then nothing there", x.can(0, 6), BAD);
        s.due("BAD, then nothing there", x.judge(0, 6), BAD);
        s.due("BAD, then nothing there", x.taken(0, 8), BAD);
        s.due("BAD, then nothing there", x.shift(0, 0, 6, 0, 0), BAD);
        x.keep(1, 0);
        s.due("BAD, then a body", x.promises(1, 0, 0), BAD);
        s.due("BAD, then a body", x.route(1, 0, 6, 0), BAD);
        s.due("nothing there, then a place", x.put(0, -1, 0), MISSING);
        s.due("nothing there, then a body", x.shift(1, 0, 0, 0, 0), MISSING);
        s.due("a body, then a place", x.put(1, -1, 0), OTHER_KIND);
        x.row(2, 0, 1);
        x.row(3, 1, 1);
        s.due("unlike sorts, then a place", x.shift(2, 9, 3, 9, 9), OTHER_KIND);
        s.due("BAD, then a size below 0", x.row(0, 5, -1), BAD);
        s.due("BAD, then NOT", x.feeds(25, 99), BAD);
        s.due("BAD, then NOT", x.breaks(0, 2), BAD);
    }

    private static void constants() {
        s.says("VOID is -2000000000.");
        s.due("VOID", NailedByWord.VOID, -2000000000);
        s.says("public static final int BAD = -1, NOT = -2, FULL = -3, STATE = -5, VOID = -2000000000;");
        s.due("BAD", NailedByWord.BAD, -1);
        s.due("NOT", NailedByWord.NOT, -2);
        s.due("FULL", NailedByWord.FULL, -3);
        s.due("STATE", NailedByWord.STATE, -5);
    }

    private static void manyCalls() {
        s.says("An object is used for at most 512 calls after it has been made");
        NailedByWord x = new NailedByWord();
        for (int i = 1; i <= 512; i++) {
            s.due("call " + i, x.day(), Math.min(99, i));
        }
        NailedByWord y = new NailedByWord();
        for (int i = 0; i < 510; i++) {
            y.mend(0, 9, i % 2 + 1);
        }
        s.due("changes", y.count(3), 40);
        s.due("call 512", y.undo(), 39);
    }
}
