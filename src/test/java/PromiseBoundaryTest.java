/**
 * What the document says of each promise: every number that a call takes, one below its least, one above its most,
 * and all from one to the other; then empty, full, none, refused.
 */
public final class PromiseBoundaryTest {
    private static final int BAD = Sentences.BAD, NOT = Sentences.NOT, FULL = Sentences.FULL, STATE = Sentences.STATE;
    private static final int MISSING = Sentences.MISSING, OTHER_KIND = Sentences.OTHER_KIND;
    private static final int NO_PLACE = Sentences.NO_PLACE, BELOW_0 = Sentences.BELOW_0;
    private static final int LEAST = Sentences.LEAST, MOST = Sentences.MOST;
    private static final long NONE = Long.MIN_VALUE;
    private static Sentences s;

    private PromiseBoundaryTest() {
    }

    public static void main(String[] args) throws Exception {
        s = new Sentences();
        newObject();
        person();
        promise();
        promises();
        mend();
        of();
        feedAndLaw();
        hard();
        route();
        held();
        best();
        soonestAndFree();
        wordsAndAll();
        ringAndBreaks();
        judge();
        canAndWho();
        feeds();
        odds();
        rued();
        byTurns();
        drawn();
        step();
        pull();
        letOffAndForget();
        dayAndLed();
        imageAndBack();
        undoAndRedo();
        body();
        act();
        trace();
        keep();
        row();
        putAndElement();
        shift();
        taken();
        count();
        s.end();
    }

    /** Three people, two promises, a body; shelf 0: bytes, 1: shorts, 2: the body, 3: nothing, 4: longs, 5: no bytes. */
    private static NailedByWord some() {
        NailedByWord x = Sentences.town(12, 0, 24);
        x.promise(1, 999);
        x.promise(10, 499);
        x.body(3);
        x.row(0, 0, 4);
        x.row(1, 1, 4);
        x.keep(2, 0);
        x.row(4, 3, 4);
        x.row(5, 0, 0);
        return x;
    }

    private static void newObject() {
        s.says("`NailedByWord()`: A town, nobody.");
        NailedByWord x = new NailedByWord();
        for (int what = 0; what < 6; what++) {
            s.due("count " + what, x.count(what), 0);
            s.due("led " + what, x.led(what), 0);
            s.due("shelf " + what, x.put(what, 0, 0), MISSING);
        }
        s.due("nobody", x.held(0, 0), BAD);
        s.due("no promise", x.hard(0), BAD);
        s.due("no law: the tape is empty", x.law(), -100);
        NailedByWord other = Sentences.town(3);
        s.due("towns have nothing in common", x.count(0) + 10 * other.count(0), 10);
    }

    private static void person() {
        s.says("One of PEOPLE at a PLACE: its number. BAD, FULL: 6.");
        s.range("place", v -> new NailedByWord().person(v), 0, 24);
        NailedByWord x = Sentences.town(1, 1, 1, 1, 1);
        s.due("the sixth", x.person(24), 5);
        s.due("the seventh", x.person(24), FULL);
        s.due("the seventh, at no place", x.person(25), BAD);
        s.due("six", x.count(0), 6);
    }

    /** Whether a number tells two unlike ones of so many people. */
    private static boolean isPair(int v, int people) {
        return v >= 0 && v / 10 < people && v % 10 < people && v / 10 != v % 10;
    }

    private static void promise() {
        s.says("(bt: 10 times BY, and TO, another one; wt: 100 times WEIGHT, and TILL)");
        s.due("nobody there", new NailedByWord().promise(1, 500), BAD);
        for (int bt = -110; bt < 130; bt++) {
            boolean good = isPair(bt, 3);
            s.due("bt " + bt, some().promise(bt, 500), good ? 2 : BAD);
            NailedByWord x = Sentences.town(0, 1, 2, 3, 4, 5);
            s.due("bt " + bt + " of six", x.promise(bt, 500), isPair(bt, 6) ? 0 : BAD);
            s.due("by", x.of(0, 10), isPair(bt, 6) ? bt / 10 : BAD);
            s.due("to", x.of(0, 11), isPair(bt, 6) ? bt % 10 : BAD);
        }
        s.due("least", some().promise(LEAST, 500), BAD);
        s.due("most", some().promise(MOST, 500), BAD);
        s.range("wt", v -> some().promise(1, v), 0, 999);
        s.says("A PROMISE is made AT where BY stands, from today on: its number. BAD, FULL: 12.");
        NailedByWord x = Sentences.nailed(11, 5);
        x.mend(0, 0, 24);
        x.mend(0, 9, 99);
        s.due("the twelfth", x.promise(1, 0), 11);
        s.due("where he stands", x.of(11, 2), 24);
        s.due("from today on", x.of(11, 4), 99);
        s.due("weight 0, till 0", x.of(11, 3) + 10 * x.of(11, 5), 0);
        s.due("the thirteenth", x.promise(1, 0), FULL);
        s.due("the thirteenth, to nobody", x.promise(2, 0), BAD);
        s.due("the thirteenth, of weight 10", x.promise(1, 1000), BAD);
        s.due("twelve", x.count(1), 12);
        s.due("twelve were made", x.led(0), 12);
    }

    private static void promises() {
        s.says("PROMISES FROM A ROW on a SHELF, from place i on, n (1 .. 12) of them: how many came (LED none)."
            + " BAD, -12 (no ROW of bytes; a SHELF that holds nothing is missing).");
        s.range("shelf", v -> some().promises(v, 0, 1), 0, 5);
        s.range("n", v -> some().promises(0, 0, v), 1, 12);
        int[] answers = {0, OTHER_KIND, OTHER_KIND, 0, OTHER_KIND, 0};
        for (int shelf = 0; shelf < 6; shelf++) {
            s.due("shelf " + shelf, some().promises(shelf, 0, 1), answers[shelf]);
        }
        NailedByWord x = some();
        Sentences.bytes(x, 0, 7, 0, 1, 24, 9, 99);
        s.due("from place 1 on", x.promises(0, 1, 12), 1);
        s.due("from place 0 on", x.promises(0, 0, 12), 0);
        s.due("led none", x.led(0), 2);
        int[] twelve = new int[60];
        for (int i = 0; i < 12; i++) {
            twelve[5 * i] = 1;
        }
        Sentences.bytes(x, 0, twelve);
        s.due("the last five of 60", x.promises(0, 55, 12), 1);
        s.due("56: within a five", x.promises(0, 56, 12), 0);
        s.due("60", x.promises(0, 60, 12), 0);
        s.due("till full", x.promises(0, 0, 12), 8);
        s.due("n 13, when full", x.promises(0, 0, 13), BAD);
    }

    private static void mend() {
        s.says("PLACE (what 0), BOOTS (1) of one, AT (2), WEIGHT (3), FROM (4), TILL (5), FORGOT (6), GONE (7) of a PROMISE,"
            + " HOLDS (8), DAY (9; number 0 for both) becomes v: what it was. BAD.");
        s.range("what", v -> some().mend(0, v, 1), 0, 9);
        int[] numbers = {2, 2, 1, 1, 1, 1, 1, 1, 0, 0};
        int[] least = {0, 0, 0, 0, 0, 0, 0, 0, 1, 0};
        int[] most = {24, 9, 24, 9, 99, 99, 1, 1, 9, 99};
        for (int i = 0; i < 10; i++) {
            int what = i;
            s.range("number, what " + what, v -> some().mend(v, what, 1), 0, numbers[what]);
            s.range("v, what " + what, v -> some().mend(0, what, v), least[what], most[what]);
        }
        NailedByWord x = some();
        s.due("what it was", x.mend(1, 3, 9), 4);
        s.due("what it was", x.mend(1, 3, 0), 9);
        s.due("nobody's place", new NailedByWord().mend(0, 0, 0), BAD);
        s.due("no promise's weight", Sentences.town(1, 2).mend(0, 3, 5), BAD);
        s.due("holds of a new town", new NailedByWord().mend(0, 8, 9), 3);
    }

    private static void of() {
        s.says("As of mend() (0 to 9); of a PROMISE 10 BY, 11 TO. BAD.");
        s.range("what", v -> some().of(0, v), 0, 11);
        int[] numbers = {2, 2, 1, 1, 1, 1, 1, 1, 0, 0, 1, 1};
        for (int i = 0; i < 12; i++) {
            int what = i;
            s.range("number, what " + what, v -> some().of(v, what), 0, numbers[what]);
            s.due("of a new town, what " + what, new NailedByWord().of(0, what), what == 8 ? 3 : what == 9 ? 0 : BAD);
        }
        s.due("by", some().of(1, 10), 1);
        s.due("to", some().of(1, 11), 0);
    }

    private static void feedAndLaw() {
        s.says("A byte (0 .. 255) comes to THE TAPE: how many it has. BAD, FULL (120).");
        s.range("letter", v -> new NailedByWord().feed(v), 0, 255);
        NailedByWord x = new NailedByWord();
        for (int i = 1; i <= 120; i++) {
            s.due("letter " + i, x.feed('1'), i);
        }
        s.due("the 121st", x.feed('1'), FULL);
        s.due("the 121st, 256", x.feed(256), BAD);
        s.due("120", x.count(2), 120);
        s.says("THE TAPE becomes THE LAW: 1; -100 less its FAULT; THE TAPE is empty then.");
        s.due("120 digits", x.law(), -104);
        s.due("empty then", x.count(2), 0);
        s.due("an empty tape", x.law(), -100);
        NailedByWord y = some();
        s.due("a law", Sentences.tell(y, "w"), 1);
        s.due("empty then", y.count(2), 0);
        s.due("hard", y.hard(0), 9);
        s.due("a fault at the first byte", Sentences.tell(y, ")"), -100);
        s.due("ends too early", Sentences.tell(y, "w-"), -102);
        s.due("the last byte of 120", Sentences.tell(y, "w-".repeat(59) + "w)"), -219);
        s.due("ends too early behind 120", Sentences.tell(y, "w-".repeat(60)), -220);
        s.due("the law as it was", y.hard(0), 9);
        s.due("the next begins anew", y.feed('1'), 1);
    }

    private static void hard() {
        s.says("How hard a PROMISE would hold today, if BY were AT its PLACE (ON or not). BAD.");
        s.range("promise", v -> some().hard(v), 0, 1);
        NailedByWord x = some();
        x.mend(0, 0, 0);
        s.due("he is elsewhere", x.hard(0), 4);
        x.mend(0, 4, 5);
        s.due("not yet on", x.hard(0), 4);
        x.mend(0, 4, 0);
        x.mend(0, 5, 7);
        x.mend(0, 9, 8);
        s.due("over", x.hard(0), 5);
        x.mend(0, 7, 1);
        s.due("gone", x.hard(0), 5);
        s.due("no promise", Sentences.town(1, 2).hard(0), BAD);
        s.due("the twelfth", Sentences.nailed(12, 5).hard(11), 2);
        s.due("there is no thirteenth", Sentences.nailed(12, 5).hard(12), BAD);
    }

    private static void route() {
        s.says("---- in thought (ROUTES, SEEN on SHELVES: BAD, -11, -12 (no ROW of bytes)).");
        s.range("shelf", v -> some().route(v, 0, 0, 0), 0, 5);
        int[] answers = {12, OTHER_KIND, OTHER_KIND, MISSING, OTHER_KIND, 12};
        for (int shelf = 0; shelf < 6; shelf++) {
            s.due("shelf " + shelf, some().route(shelf, 30, 0, 0), answers[shelf]);
            s.due("bad ahead of it", some().route(shelf, 30, 3, 0), BAD);
        }
        s.says("Behind n STEPS: the PLACE (what 0), DAYS HELD (1), WEIGHT KEPT (2), which (3).");
        s.range("n", v -> some().route(0, v, 0, 0), 0, 30);
        s.range("one", v -> some().route(0, 0, v, 0), 0, 2);
        s.range("what", v -> some().route(0, 0, 0, v), 0, 3);
        s.due("held all days", some().route(0, 30, 0, 1), 4);
        s.due("weight", some().route(5, 0, 0, 2), 9);
        s.due("which", some().route(5, 0, 1, 3), 2);
        s.due("none", some().route(5, 0, 2, 3), 0);
    }

    private static void held() {
        s.says("HELD NOW: by how many (what 0), how hard (1). BAD.");
        s.range("one", v -> some().held(v, 0), 0, 2);
        s.range("what", v -> some().held(0, v), 0, 1);
        s.due("by how many", some().held(0, 0), 1);
        s.due("how hard", some().held(0, 1), 4);
        s.due("not held", some().held(1, 0), 0);
        s.due("none", some().held(2, 1), 0);
    }

    private static void best() {
        s.says("BEST: that (k -1), the k-th STEP (0 .. t less 1). BAD.");
        s.range("one", v -> some().best(v, 0, -1), 0, 2);
        s.range("t", v -> some().best(0, v, -1), 0, 4);
        for (int i = 0; i < 5; i++) {
            int t = i;
            s.range("k of " + t, v -> v == -1 ? 0 : some().best(2, t, v), -1, t - 1);
        }
        s.due("that", some().best(0, 4, -1), 9);
        s.due("that, of one with no promises", some().best(2, 4, -1), 0);
    }

    private static void soonestAndFree() {
        s.says("SOONEST. BAD; NOT.");
        s.range("one", v -> some().soonest(v, 0), 0, 2);
        s.range("place", v -> some().soonest(2, v), 0, 24);
        s.due("he is there", some().soonest(2, 24), 0);
        s.due("held", some().soonest(0, 11), NOT);
        s.says("FREE. BAD.");
        s.range("one", v -> some().free(v), 0, 2);
        s.due("all but one", some().free(0), 24);
    }

    private static void wordsAndAll() {
        s.says("WORDS: how many (what 0), which (1). BAD.");
        s.range("one", v -> some().words(v, 0), 0, 2);
        s.range("what", v -> some().words(0, v), 0, 1);
        s.due("which", some().words(0, 1), 1);
        s.says("ALL: how many (what 0), who (1). BAD.");
        s.range("what", v -> some().all(v), 0, 1);
        s.due("how many", some().all(0), 1);
        s.due("who", some().all(1), 2);
    }

    private static void ringAndBreaks() {
        s.says("RING. NOT.");
        s.due("none", some().ring(), NOT);
        NailedByWord x = some();
        x.mend(1, 3, 9);
        s.due("two", x.ring(), 2);
        s.says("BREAK: WEIGHT (what 0), which (1). BAD; NOT.");
        s.range("one", v -> some().breaks(v, 0), 0, 2);
        s.range("what", v -> some().breaks(0, v), 0, 1);
        x.mend(0, 1, 0);
        s.due("no boots", x.breaks(0, 0), NOT);
        s.due("no boots", x.breaks(0, 1), NOT);
        s.due("no boots, what 2", x.breaks(0, 2), BAD);
    }

    private static void judge() {
        s.says("JUDGED (ss: 10 times the SHELF of the ROUTE, and that of SEEN; the ROUTE first). NOT.");
        s.range("one", v -> some().judge(55, v), 0, 2);
        int[] bad = {-1, -10, -11, 6, 7, 9, 16, 56, 60, 61, 66, 100, 105, LEAST, MOST};
        for (int ss : bad) {
            s.due("ss " + ss, some().judge(ss, 0), BAD);
        }
        int[] kinds = {0, OTHER_KIND, OTHER_KIND, MISSING, OTHER_KIND, 0};
        for (int way = 0; way < 6; way++) {
            for (int seen = 0; seen < 6; seen++) {
                int due = kinds[way] != 0 ? kinds[way] : kinds[seen];
                int here = due != 0 ? due : seen == 5 ? NOT : 0;
                s.due("ss " + (10 * way + seen), some().judge(10 * way + seen, 0), here);
                s.due("bad ahead of it", some().judge(10 * way + seen, 3), BAD);
            }
        }
    }

    private static void canAndWho() {
        s.says("`int can(int shelf, int one)`: CAN.");
        s.range("shelf", v -> some().can(v, 0), 0, 5);
        s.range("one", v -> some().can(0, v), 0, 2);
        int[] can = {0, OTHER_KIND, OTHER_KIND, MISSING, OTHER_KIND, 1};
        for (int shelf = 0; shelf < 6; shelf++) {
            s.due("shelf " + shelf, some().can(shelf, 0), can[shelf]);
            s.due("bad ahead of it", some().can(shelf, -1), BAD);
        }
        s.says("WHO: bits.");
        s.range("shelf", v -> some().who(v), 0, 5);
        int[] who = {2, OTHER_KIND, OTHER_KIND, MISSING, OTHER_KIND, 7};
        for (int shelf = 0; shelf < 6; shelf++) {
            s.due("shelf " + shelf, some().who(shelf), who[shelf]);
        }
    }

    private static void feeds() {
        s.says("FEED: how far (k -1), the k-th PLACE (NOT). BAD.");
        s.range("place", v -> some().feeds(v, -1), 0, 24);
        s.due("k -2", some().feeds(0, -2), BAD);
        s.due("k least", some().feeds(0, LEAST), BAD);
        s.due("k 0", some().feeds(0, 0), 12);
        s.due("k 1", some().feeds(0, 1), NOT);
        s.due("k most", some().feeds(0, MOST), NOT);
        s.due("k most, place 25", some().feeds(25, MOST), BAD);
        s.due("nobody there", new NailedByWord().feeds(0, -1), 0);
    }

    private static void odds() {
        s.says("ODDS (part 0 above, 1 below the line). Long.MIN_VALUE: BAD.");
        s.range("one", v -> some().odds(v, 0), 0, 2, NONE);
        s.range("part", v -> some().odds(0, v), 0, 1, NONE);
        s.due("above", some().odds(0, 0), 1);
        s.due("below", some().odds(0, 1), 2);
    }

    private static void rued() {
        s.says("RUED: bits. BAD.");
        s.range("one", v -> some().rued(v, 0), 0, 2);
        s.range("t", v -> some().rued(0, v), 0, 8);
        s.due("none", some().rued(2, 8), 0);
    }

    private static void byTurns() {
        s.says("BY TURNS (ab: 10 times the man, and the child, unlike): that (what 0), his first STEP (1). BAD.");
        for (int ab = -110; ab < 130; ab++) {
            NailedByWord x = Sentences.town(0, 1, 2, 3, 4, 9);
            int far = ab < 0 || ab / 10 > 5 ? 0 : new int[] {1, 0, 1, 2, 3, 4}[ab / 10];
            s.due("ab " + ab, x.byTurns(ab, 1, 1, 0), isPair(ab, 6) ? Math.max(0, far - 1) : BAD);
            s.due("ab " + ab + " of three", some().byTurns(ab, 0, 1, 0) == BAD ? 0 : 1, isPair(ab, 3) ? 1 : 0);
        }
        s.due("least", some().byTurns(LEAST, 0, 1, 0), BAD);
        s.due("most", some().byTurns(MOST, 0, 1, 0), BAD);
        s.range("place", v -> some().byTurns(1, v, 1, 0), 0, 24);
        s.range("n", v -> some().byTurns(1, 0, v, 0), 1, 5);
        s.range("what", v -> some().byTurns(1, 0, 1, v), 0, 1);
    }

    private static void drawn() {
        s.says("DRAWN (nm: 100 n and m): DAYS HELD (place -1), how often at a PLACE. BAD.");
        s.range("one", v -> some().drawn(0, 101, v, -1), 0, 2);
        s.range("place", v -> some().drawn(0, 101, 0, v), -1, 24);
        for (int year = 0; year < 32; year++) {
            int n = year;
            int[] days = {0, 1, 40, 41, 99};
            for (int m : days) {
                boolean bad = n < 1 || n > 30 || m < 1 || m > 40;
                s.due("nm " + (100 * n + m), some().drawn(0, 100 * n + m, 0, -1), bad ? BAD : n * m);
            }
        }
        s.due("nm below 0", some().drawn(0, -101, 0, -1), BAD);
        s.due("any seed", some().drawn(LEAST, 101, 0, 12) + some().drawn(MOST, 101, 0, 12), 2);
    }

    private static void step() {
        s.says("One STEPS (0 .. 4): the PLACE then (HELD: he stays, in vain). BAD.");
        s.range("one", v -> some().step(v, 0), 0, 2);
        s.range("way", v -> some().step(1, v), 0, 4);
        NailedByWord x = some();
        s.due("held", x.step(0, 1), 12);
        s.due("in vain", x.led(2), 1);
        s.due("not held", x.step(1, 1), 1);
        s.due("held, a way that is none", x.step(0, 5), BAD);
        s.due("in vain once", x.led(2), 1);
    }

    private static void pull() {
        s.says("BY PULLS: BOOTS then. BAD; STATE: the PROMISE does not HOLD him, or he has no BOOTS.");
        s.range("promise", v -> some().pull(v), 0, 1);
        NailedByWord x = some();
        s.due("it does not hold", x.pull(1), STATE);
        x.mend(0, 1, 0);
        s.due("no boots", x.pull(0), STATE);
        x.mend(0, 1, 1);
        s.due("one boot", x.pull(0), 0);
        x.mend(0, 1, 9);
        s.due("it is gone", x.pull(0), STATE);
        NailedByWord y = some();
        y.mend(0, 4, 1);
        s.due("not yet on", y.pull(0), STATE);
        y.mend(0, 9, 1);
        y.mend(0, 0, 13);
        s.due("elsewhere", y.pull(0), STATE);
        y.mend(0, 0, 12);
        y.mend(0, 8, 5);
        s.due("not hard enough", y.pull(0), STATE);
        y.mend(0, 8, 4);
        s.due("just hard enough", y.pull(0), 2);
    }

    private static void letOffAndForget() {
        s.says("A PROMISE is let off: 1. BAD; STATE: it is GONE.");
        s.range("promise", v -> some().letOff(v), 0, 1);
        NailedByWord x = some();
        s.due("let off", x.letOff(0), 1);
        s.due("gone", x.letOff(0), STATE);
        x.pull(1);
        x.mend(1, 7, 1);
        s.due("gone by mending", x.letOff(1), STATE);
        NailedByWord y = some();
        y.pull(0);
        s.due("broken", y.letOff(0), STATE);
        s.says("TO FORGETS: 1. BAD; STATE: it is FORGOT.");
        s.range("promise", v -> some().forget(v), 0, 1);
        s.due("a gone one too", y.forget(0), 1);
        s.due("forgot", y.forget(0), STATE);
        y.mend(1, 6, 1);
        s.due("forgot by mending", y.forget(1), STATE);
    }

    private static void dayAndLed() {
        s.says("A DAY passes: DAY then.");
        NailedByWord x = new NailedByWord();
        for (int i = 1; i < 103; i++) {
            s.due("day " + i, x.day(), Math.min(i, 99));
        }
        s.says("LED: made (what 0), steps (1), in vain (2), pulled (3), let off (4), days (5). BAD.");
        s.range("what", v -> some().led(v), 0, 5);
        s.due("days that passed", x.led(5), 102);
    }

    private static void imageAndBack() {
        s.says("AN IMAGE is kept: days.");
        NailedByWord x = some();
        x.mend(0, 9, 50);
        s.due("no day passed", x.image(), 0);
        x.day();
        x.step(2, 0);
        s.due("a later one in its place", x.image(), 1);
        s.says("It is laid back (PEOPLE, PROMISES that came since as they are): days. STATE: there is none.");
        s.due("there is none", some().back(), STATE);
        x.step(2, 0);
        x.day();
        x.person(3);
        x.step(3, 1);
        x.promise(30, 999);
        x.forget(2);
        x.letOff(2);
        s.due("laid back", x.back(), 1);
        s.due("to the later one", x.of(2, 0), 19);
        s.due("day", x.of(0, 9), 51);
        s.due("who came since", x.of(3, 0), 4);
        s.due("what came since", x.of(2, 6) + 2 * x.of(2, 7), 3);
        s.due("from, as it is", x.of(2, 4), 52);
        s.due("again", x.back(), 1);
    }

    private static void undoAndRedo() {
        s.says("UNDONE: how many may still be. STATE: none.");
        NailedByWord x = some();
        s.due("none", x.undo(), STATE);
        x.mend(0, 9, 1);
        x.mend(0, 9, 2);
        s.due("one may still be", x.undo(), 1);
        s.due("none may", x.undo(), 0);
        s.due("none", x.undo(), STATE);
        s.says("DONE AGAIN: how many may still be. STATE: none.");
        s.due("one may still be", x.redo(), 1);
        s.due("none may", x.redo(), 0);
        s.due("none", x.redo(), STATE);
        s.due("day", x.of(0, 9), 2);
        s.due("a new town", new NailedByWord().redo(), STATE);
    }

    private static void body() {
        s.says("A BODY of a KIND (0 .. 7) is kept: its number. BAD, FULL.");
        s.range("kind", v -> some().body(v), 0, 7);
        NailedByWord x = new NailedByWord();
        for (int i = 0; i < 50; i++) {
            s.due("body " + i, x.body(7), i);
        }
        s.due("the 51st", x.body(7), FULL);
        s.due("the 51st, of no kind", x.body(8), BAD);
    }

    private static void act() {
        s.says("An ACT (0 .. 3) of a BODY with x. 0, and no TRACE then: no such BODY, ACT.");
        int[] no = {-1, 1, LEAST, MOST};
        for (int body : no) {
            NailedByWord x = some();
            x.act(0, 3, 1);
            s.due("body " + body, x.act(body, 0, 5), 0);
            s.due("no trace then", x.trace(0), BAD);
            s.due("none ran", x.count(5), 0);
        }
        int[] none = {-1, 4, LEAST, MOST};
        for (int act : none) {
            NailedByWord x = some();
            x.act(0, 3, 1);
            s.due("act " + act, x.act(0, act, 5), 0);
            s.due("no trace then", x.trace(0), BAD);
            s.due("none ran", x.count(5), 0);
        }
        for (int act = 0; act < 4; act++) {
            NailedByWord x = some();
            x.act(0, act, 0);
            s.due("act " + act + " has a trace", x.trace(0) > 0 ? 1 : 0, 1);
        }
    }

    private static void trace() {
        s.says("THE TRACE's i-th body. BAD.");
        NailedByWord x = some();
        s.due("none yet", x.trace(0), BAD);
        x.act(0, 3, 1);
        s.range("i", v -> x.trace(v), 0, 6);
    }

    private static void keep() {
        s.says("A SHELF holds nothing (body -1), or a BODY: 1. BAD.");
        s.range("shelf", v -> some().keep(v, 0), 0, 5);
        s.range("body", v -> some().keep(0, v), -1, 0);
        for (int shelf = 0; shelf < 6; shelf++) {
            NailedByWord x = some();
            s.due("refused", x.keep(shelf, 1), BAD);
            s.due("nothing", x.keep(shelf, -1), 1);
            s.due("nothing there", x.taken(shelf, 0), MISSING);
            s.due("a body", x.keep(shelf, 0), 1);
            s.due("a body there", x.taken(shelf, 0), 3);
        }
    }

    private static void row() {
        s.says("A SHELF holds a ROW: 1. BAD (sort, n above 60); -14.");
        s.range("shelf", v -> some().row(v, 0, 1), 0, 5);
        s.range("sort", v -> some().row(0, v, 1), 0, 4);
        for (int n = 0; n < 61; n++) {
            s.due("n " + n, some().row(0, 0, n), 1);
        }
        s.due("n 61", some().row(0, 0, 61), BAD);
        s.due("n most", some().row(0, 0, MOST), BAD);
        s.due("n -1", some().row(0, 0, -1), BELOW_0);
        s.due("n least", some().row(0, 0, LEAST), BELOW_0);
        s.due("n -1, sort 5", some().row(0, 5, -1), BAD);
        s.due("n -1, shelf 6", some().row(6, 0, -1), BAD);
        NailedByWord x = some();
        x.row(2, 4, 2);
        s.due("in place of a body", x.taken(2, 0), OTHER_KIND);
        x.put(0, 3, 9);
        x.row(0, 0, 4);
        s.due("a new row, 0 at first", x.element(0, 3), 0);
    }

    private static void putAndElement() {
        s.says("Element i of a ROW becomes v: 1. BAD, -11, -12, -13.");
        s.range("shelf", v -> some().put(v, 0, 1), 0, 5);
        s.range("i", v -> some().put(0, v, 1), 0, 3, NO_PLACE);
        int[] put = {1, 1, OTHER_KIND, MISSING, 1, NO_PLACE};
        for (int shelf = 0; shelf < 6; shelf++) {
            s.due("shelf " + shelf, some().put(shelf, 0, 1), put[shelf]);
        }
        s.due("no place of a body", some().put(2, -1, 1), OTHER_KIND);
        s.due("no place of nothing", some().put(3, -1, 1), MISSING);
        s.says("Element i of a ROW; Long.MIN_VALUE: BAD, -11 to -13.");
        s.range("shelf", v -> v == 2 || v == 3 || v == 5 ? 0 : some().element(v, 0), 0, 5, NONE);
        s.range("i", v -> some().element(0, v), 0, 3, NONE);
        long[] element = {0, 0, NONE, NONE, 0, NONE};
        for (int shelf = 0; shelf < 6; shelf++) {
            s.due("shelf " + shelf, some().element(shelf, 0), element[shelf]);
        }
        NailedByWord x = some();
        x.put(4, 3, NONE + 1);
        s.due("the last of longs", x.element(4, 3), NONE + 1);
    }

    private static void shift() {
        s.says("n elements of a ROW from i on come to another one (or the same) from j on, as they all were before: n."
            + " BAD, -11 (either), -12 (no ROWS, or of unlike sorts), -13.");
        s.range("shelf", v -> some().shift(v, 0, 0, 0, 0), 0, 5);
        s.range("other", v -> some().shift(0, 0, v, 0, 0), 0, 5);
        int[][] kinds = {
            {0, OTHER_KIND, OTHER_KIND, MISSING, OTHER_KIND, 0},
            {OTHER_KIND, 0, OTHER_KIND, MISSING, OTHER_KIND, OTHER_KIND},
            {OTHER_KIND, OTHER_KIND, OTHER_KIND, MISSING, OTHER_KIND, OTHER_KIND},
            {MISSING, MISSING, MISSING, MISSING, MISSING, MISSING},
            {OTHER_KIND, OTHER_KIND, OTHER_KIND, MISSING, 0, OTHER_KIND},
            {0, OTHER_KIND, OTHER_KIND, MISSING, OTHER_KIND, 0},
        };
        for (int a = 0; a < 6; a++) {
            for (int b = 0; b < 6; b++) {
                s.due("none from " + a + " to " + b, some().shift(a, 0, b, 0, 0), kinds[a][b]);
                s.due("no place from " + a + " to " + b, some().shift(a, 9, b, 9, 9),
                    kinds[a][b] == 0 ? NO_PLACE : kinds[a][b]);
            }
        }
        for (int i = -1; i < 6; i++) {
            for (int j = -1; j < 6; j++) {
                for (int n = -1; n < 6; n++) {
                    boolean there = i >= 0 && j >= 0 && n >= 0 && i + n <= 4 && j + n <= 4;
                    s.due(n + " from " + i + " to " + j, some().shift(0, i, 0, j, n), there ? n : NO_PLACE);
                }
            }
        }
        s.due("sums that wrap", some().shift(0, 1, 0, 1, MOST), NO_PLACE);
        s.due("sums that wrap", some().shift(0, MOST, 0, 0, MOST), NO_PLACE);
        s.due("sums that wrap", some().shift(0, LEAST, 0, LEAST, LEAST), NO_PLACE);
        NailedByWord x = new NailedByWord();
        Sentences.bytes(x, 0, 1, 2, 3, 4);
        s.due("up by one in the same", x.shift(0, 0, 0, 1, 3), 3);
        int[] up = {1, 1, 2, 3};
        for (int i = 0; i < 4; i++) {
            s.due("as they were before: " + i, x.element(0, i), up[i]);
        }
        Sentences.bytes(x, 0, 1, 2, 3, 4);
        s.due("down by one in the same", x.shift(0, 1, 0, 0, 3), 3);
        int[] down = {2, 3, 4, 4};
        for (int i = 0; i < 4; i++) {
            s.due("as they were before: " + i, x.element(0, i), down[i]);
        }
    }

    private static void taken() {
        s.says("What a SHELF holds, taken for a BODY of KIND k (0 .. 7), or under it: its KIND. BAD, -11, -12.");
        s.range("shelf", v -> some().taken(v, 0), 0, 5);
        s.range("k", v -> some().taken(2, v), 0, 7);
        int[] answers = {OTHER_KIND, OTHER_KIND, 3, MISSING, OTHER_KIND, OTHER_KIND};
        for (int shelf = 0; shelf < 6; shelf++) {
            s.due("shelf " + shelf, some().taken(shelf, 0), answers[shelf]);
            s.due("shelf " + shelf + ", kind 8", some().taken(shelf, 8), BAD);
        }
        int[] heel = {3, OTHER_KIND, 3, 3, OTHER_KIND, OTHER_KIND, OTHER_KIND, OTHER_KIND};
        for (int k = 0; k < 8; k++) {
            s.due("a heel for kind " + k, some().taken(2, k), heel[k]);
        }
    }

    private static void count() {
        s.says("How many: 0 PEOPLE, 1 PROMISES, 2 bytes on THE TAPE, 3 changes that may be UNDONE, 4 BODIES,"
            + " 5 bodies that ran in the latest act(). BAD.");
        s.range("what", v -> some().count(v), 0, 5);
        NailedByWord x = Sentences.town(1, 2, 3, 4, 5, 6);
        for (int i = 0; i < 12; i++) {
            x.promise(1, 999);
        }
        for (int i = 0; i < 120; i++) {
            x.feed(255);
        }
        for (int i = 1; i < 99; i++) {
            x.mend(0, 9, i);
        }
        for (int i = 0; i < 50; i++) {
            x.body(5);
        }
        x.act(49, 3, 0);
        int[] full = {6, 12, 120, 40, 50, 10};
        for (int what = 0; what < 6; what++) {
            s.due("full, what " + what, x.count(what), full[what]);
        }
        x.person(1);
        x.promise(1, 1);
        x.feed(1);
        x.mend(0, 9, 99);
        x.body(0);
        for (int what = 0; what < 6; what++) {
            s.due("still, what " + what, x.count(what), full[what]);
        }
    }
}
