/** Steps, routes and sections 2 and 3 of the document: what each sentence says of the least, the most, and beyond. */
public final class ThoughtBoundaryTest {
    private static final int BAD = Sentences.BAD, NOT = Sentences.NOT;
    private static final int LEAST = Sentences.LEAST, MOST = Sentences.MOST;
    private static Sentences s;

    private ThoughtBoundaryTest() {
    }

    public static void main(String[] args) throws Exception {
        s = new Sentences();
        steps();
        routes();
        kept();
        behindNSteps();
        heldNow();
        best();
        soonest();
        free();
        words();
        all();
        ring();
        breaks();
        seen();
        judged();
        canAndWho();
        feed();
        odds();
        rued();
        turns();
        turnsOfTheChild();
        s.end();
    }

    private static void steps() {
        s.says("A STEP: 0 up (Y less), 1 right, 2 down, 3 left (over the edge one stays), 4 none.");
        for (int place = 0; place < 25; place++) {
            int x = place % 5;
            int y = place / 5;
            int[] due = {y == 0 ? place : place - 5, x == 4 ? place : place + 1, y == 4 ? place : place + 5,
                x == 0 ? place : place - 1, place};
            for (int way = 0; way < 5; way++) {
                NailedByWord t = Sentences.town(place);
                s.due("from " + place + " by " + way, t.step(0, way), due[way]);
                Sentences.bytes(t, 0, way);
                t.mend(0, 0, place);
                s.due("in thought from " + place + " by " + way, t.route(0, 1, 0, 0), due[way]);
            }
        }
        NailedByWord t = Sentences.town(12);
        s.due("-1", t.step(0, -1), BAD);
        s.due("5", t.step(0, 5), BAD);
    }

    private static void routes() {
        s.says("STEPS, one each DAY (30 at most; it ends with what is none)");
        NailedByWord x = Sentences.town(12, 0);
        x.promise(1, 999);
        Sentences.alike(x, 0, 60, 4);
        s.due("30 days held of 60", x.route(0, 30, 0, 1), 30);
        Sentences.alike(x, 0, 29, 4);
        s.due("29 steps", x.route(0, 30, 0, 1), 29);
        Sentences.alike(x, 0, 0, 4);
        s.due("no step", x.route(0, 30, 0, 1), 0);
        int[] none = {5, -1, 99, 127, -128};
        for (int v : none) {
            Sentences.bytes(x, 0, 4, 4, v, 4, 4);
            s.due("ends with " + v, x.route(0, 30, 0, 1), 2);
            Sentences.bytes(x, 0, v, 4);
            s.due("ends at once with " + v, x.route(0, 30, 0, 1), 0);
        }
        Sentences.alike(x, 0, 31, 4);
        x.put(0, 29, 5);
        s.due("the last is none", x.route(0, 30, 0, 1), 29);
        s.says("each day one who is HELD stays, else he steps; then DAY is one more (99 stays).");
        NailedByWord y = Sentences.nailed(1, 9);
        y.mend(0, 5, 1);
        Sentences.bytes(y, 0, 1, 1, 1);
        s.due("held on day 0", y.route(0, 1, 0, 0), 12);
        s.due("held on day 1", y.route(0, 2, 0, 0), 12);
        s.due("free on day 2", y.route(0, 3, 0, 0), 13);
        y.mend(0, 5, 99);
        y.mend(0, 9, 98);
        Sentences.alike(y, 0, 30, 1);
        s.due("99 stays, and he held", y.route(0, 30, 0, 1), 30);
        y.mend(0, 5, 98);
        s.due("98, then 99", y.route(0, 30, 0, 1), 1);
        s.due("where he comes then", y.route(0, 30, 0, 0), 14);
        y.mend(0, 9, 99);
        s.due("99 from the first", y.route(0, 30, 0, 1), 0);
    }

    private static void kept() {
        s.says("A PROMISE is KEPT on a ROUTE, if it is ON and he AT its PLACE on one of its DAYS, as that DAY begins,"
            + " or behind the last one.");
        NailedByWord x = Sentences.nailed(1, 4);
        Sentences.bytes(x, 0, 1, 1);
        s.due("as the first day begins", x.route(0, 2, 0, 3), 1);
        x.mend(0, 4, 1);
        s.due("it is on when he is away", x.route(0, 2, 0, 3), 0);
        x.mend(0, 2, 13);
        s.due("as the second begins", x.route(0, 2, 0, 3), 1);
        x.mend(0, 5, 1);
        s.due("just that day", x.route(0, 2, 0, 3), 1);
        s.due("behind one step", x.route(0, 1, 0, 3), 1);
        s.due("behind none", x.route(0, 0, 0, 3), 0);
        x.mend(0, 2, 14);
        s.due("over by then", x.route(0, 2, 0, 3), 0);
        x.mend(0, 4, 2);
        x.mend(0, 5, 2);
        s.due("behind the last one", x.route(0, 2, 0, 3), 1);
        x.mend(0, 4, 3);
        x.mend(0, 5, 3);
        s.due("a day later", x.route(0, 2, 0, 3), 0);
        x.mend(0, 4, 0);
        x.mend(0, 7, 1);
        s.due("gone", x.route(0, 2, 0, 3), 0);
        NailedByWord y = Sentences.nailed(1, 4);
        y.mend(0, 4, 99);
        Sentences.bytes(y, 0, 4);
        y.mend(0, 9, 98);
        s.due("day 99 behind the last", y.route(0, 1, 0, 3), 1);
        s.due("day 98", y.route(0, 0, 0, 3), 0);
    }

    private static void behindNSteps() {
        s.says("the PLACE behind its first n (0 .. 30) STEPS (all, if there are not as many)");
        NailedByWord x = Sentences.town(10);
        Sentences.bytes(x, 0, 1, 1, 1);
        s.due("-1", x.route(0, -1, 0, 0), BAD);
        s.due("0", x.route(0, 0, 0, 0), 10);
        s.due("3", x.route(0, 3, 0, 0), 13);
        s.due("4, but there are 3", x.route(0, 4, 0, 0), 13);
        s.due("30", x.route(0, 30, 0, 0), 13);
        s.due("31", x.route(0, 31, 0, 0), BAD);
        s.due("least", x.route(0, LEAST, 0, 0), BAD);
        s.due("most", x.route(0, MOST, 0, 0), BAD);
        s.says("on how many of these DAYS he was HELD as it began; WEIGHT of his KEPT PROMISES together; which (bits).");
        NailedByWord y = Sentences.nailed(12, 9);
        Sentences.alike(y, 0, 30, 1);
        s.due("none of no days", y.route(0, 0, 0, 1), 0);
        s.due("one", y.route(0, 1, 0, 1), 1);
        s.due("all 30", y.route(0, 30, 0, 1), 30);
        s.due("weight of all twelve", y.route(0, 0, 0, 2), 108);
        s.due("all twelve", y.route(0, 30, 0, 3), 4095);
        s.due("the other one's: none", y.route(0, 30, 1, 1), 0);
        s.due("the other one's: none", y.route(0, 30, 1, 2), 0);
        s.due("the other one's: none", y.route(0, 30, 1, 3), 0);
    }

    private static void heldNow() {
        s.says("HELD NOW: by how many PROMISES; how hard the hardest holds (0: none is ON there).");
        NailedByWord x = Sentences.town(12, 0);
        s.due("no promise", x.held(0, 0), 0);
        s.due("no promise", x.held(0, 1), 0);
        x.promise(1, 999);
        x.mend(0, 4, 1);
        s.due("not on", x.held(0, 0), 0);
        s.due("not on", x.held(0, 1), 0);
        NailedByWord y = Sentences.nailed(12, 9);
        s.due("twelve", y.held(0, 0), 12);
        Sentences.tell(y, "w+o");
        s.due("9 at most", y.held(0, 1), 9);
        s.due("the other one", y.held(1, 1), 0);
        s.says("The hardest that is ON there, whether it HOLDS or not.");
        NailedByWord z = Sentences.nailed(1, 5);
        s.due("it does not hold", z.held(0, 0), 0);
        s.due("it is on", z.held(0, 1), 2);
        z.promise(1, 399);
        s.due("the hardest", z.held(0, 1), 2);
        z.promise(1, 999);
        s.due("one that holds", z.held(0, 1), 4);
        z.mend(2, 0, 0);
        z.mend(0, 0, 13);
        s.due("none there", z.held(0, 1), 0);
    }

    private static void best() {
        s.says("BEST: for t (0 .. 4) days the STEPS by which WEIGHT of KEPT PROMISES is most: that; the k-th STEP"
            + " (of like ones the least first, one behind the other).");
        NailedByWord x = Sentences.town(0, 24);
        s.due("t -1", x.best(0, -1, -1), BAD);
        s.due("t 5", x.best(0, 5, -1), BAD);
        s.due("t 0", x.best(0, 0, -1), 0);
        s.due("t 4", x.best(0, 4, -1), 0);
        for (int k = 0; k < 4; k++) {
            s.due("all alike, the least: " + k, x.best(0, 4, k), 0);
        }
        x.promise(1, 499);
        x.mend(0, 2, 4);
        s.due("too far for 3", x.best(0, 3, -1), 0);
        s.due("just 4", x.best(0, 4, -1), 4);
        for (int k = 0; k < 4; k++) {
            s.due("the one way: " + k, x.best(0, 4, k), 1);
        }
        x.mend(0, 2, 6);
        int[] four = {0, 0, 1, 2};
        for (int k = 0; k < 4; k++) {
            s.due("the least first, over the edge too: " + k, x.best(0, 4, k), four[k]);
        }
        int[] two = {1, 2};
        for (int k = 0; k < 2; k++) {
            s.due("right ahead of down: " + k, x.best(0, 2, k), two[k]);
        }
        NailedByWord y = Sentences.nailed(12, 9);
        s.due("all twelve at once", y.best(0, 0, -1), 108);
        s.due("held: all are alike", y.best(0, 4, 0), 0);
        NailedByWord z = Sentences.nailed(1, 0);
        s.due("no weight", z.best(0, 4, -1), 0);
        z.mend(0, 2, 13);
        s.due("to keep it is no better", z.best(0, 4, 0), 0);
        z.mend(0, 3, 4);
        z.mend(0, 4, 99);
        z.mend(0, 9, 98);
        s.due("on from day 99", z.best(0, 1, -1), 4);
        s.due("day 98", z.best(0, 0, -1), 0);
        bestOfOneDay();
        bestOfOneHeld();
    }

    /** A promise beside him that is on for just one day, and one where he stands. */
    private static void bestOfOneDay() {
        for (int day = 0; day < 6; day++) {
            NailedByWord x = Sentences.nailed(1, 4);
            x.mend(0, 4, day);
            x.mend(0, 5, day);
            for (int t = 0; t < 5; t++) {
                s.due("there, on day " + day + ", in " + t, x.best(0, t, -1), day <= t ? 4 : 0);
            }
            x.mend(0, 2, 13);
            for (int t = 0; t < 5; t++) {
                s.due("beside, on day " + day + ", in " + t, x.best(0, t, -1), day > 0 && day <= t ? 4 : 0);
            }
        }
    }

    private static void bestOfOneHeld() {
        NailedByWord x = Sentences.nailed(2, 9);
        x.mend(1, 2, 7);
        s.due("he cannot come up", x.best(0, 4, -1), 9);
        x.mend(0, 5, 2);
        s.due("held on day 2", x.best(0, 3, -1), 9);
        s.due("free on day 3", x.best(0, 4, -1), 18);
        int[] four = {0, 0, 0, 0};
        for (int k = 0; k < 4; k++) {
            s.due("the least while he is held, then up: " + k, x.best(0, 4, k), four[k]);
        }
        x.mend(1, 2, 13);
        s.due("then right", x.best(0, 4, 3), 1);
        x.mend(0, 3, 0);
        x.mend(1, 3, 0);
        s.due("no weight: what was best ahead does not stay", x.best(0, 4, 3), 0);
    }

    private static void soonest() {
        s.says("SOONEST: behind how many days (0 .. 20) he can be at a told PLACE: NOT.");
        NailedByWord x = Sentences.nailed(1, 9);
        s.due("he is there", x.soonest(0, 12), 0);
        s.due("he never comes away", x.soonest(0, 13), NOT);
        x.mend(0, 5, 18);
        s.due("free on day 19", x.soonest(0, 13), 20);
        s.due("two steps would be 21", x.soonest(0, 14), NOT);
        x.mend(0, 5, 19);
        s.due("free on day 20", x.soonest(0, 13), NOT);
        s.due("he is there even so", x.soonest(0, 12), 0);
        x.mend(0, 5, 0);
        s.due("free on day 1", x.soonest(0, 13), 2);
        x.mend(0, 9, 99);
        x.mend(0, 5, 99);
        s.due("99 stays", x.soonest(0, 13), NOT);
        s.due("from corner to corner", x.soonest(1, 24), 8);
        for (int place = 0; place < 25; place++) {
            NailedByWord y = Sentences.town(place);
            for (int there = 0; there < 25; there++) {
                int apart = Math.abs(place % 5 - there % 5) + Math.abs(place / 5 - there / 5);
                s.due("from " + place + " to " + there, y.soonest(0, there), apart);
            }
        }
    }

    private static void free() {
        s.says("FREE: how many of the 25 PLACES would not hold him today, if he stood there.");
        NailedByWord x = Sentences.town(12, 0);
        s.due("all", x.free(0), 25);
        for (int p = 0; p < 12; p++) {
            x.promise(1, 999);
            x.mend(p, 2, 2 * p + 1);
            s.due("one less", x.free(0), 24 - p);
        }
        x.mend(11, 2, 1);
        s.due("two at one place", x.free(0), 14);
        x.mend(1, 3, 4);
        s.due("one too light", x.free(0), 15);
        x.mend(2, 5, 0);
        s.due("on its last day", x.free(0), 15);
        x.mend(0, 9, 1);
        s.due("over", x.free(0), 16);
        s.due("the other one", x.free(1), 25);
    }

    private static void words() {
        s.says("WORDS: the fewest PROMISES let off (GONE) by which one is not HELD where he stands: how many; which"
            + " (bits; of like ones the least).");
        NailedByWord x = Sentences.nailed(12, 9);
        s.due("all twelve", x.words(0, 0), 12);
        s.due("all twelve", x.words(0, 1), 4095);
        Sentences.tell(x, "o-2");
        s.due("seven, so that five stay", x.words(0, 0), 7);
        s.due("the least ones", x.words(0, 1), 127);
        Sentences.tell(x, "o>10?9;0");
        s.due("one", x.words(0, 0), 1);
        s.due("the least", x.words(0, 1), 1);
        Sentences.tell(x, "o<11?9;w");
        s.due("each that goes nails the others", x.words(0, 0), 12);
        NailedByWord y = Sentences.nailed(1, 9);
        s.due("one", y.words(0, 0), 1);
        s.due("nothing was let off", y.of(0, 7), 0);
        Sentences.tell(y, "b=3?9;0");
        s.due("boots stay, unlike when he breaks it", y.words(0, 0), 1);
        Sentences.tell(y, "b<3?9;0");
        s.due("boots stay", y.words(0, 0), 0);
        NailedByWord w = Sentences.nailed(1, 9);
        w.promise(10, 599);
        w.promise(10, 999);
        s.due("not the other one's", w.words(1, 1), 4);
        w.mend(2, 3, 0);
        s.due("not held", w.words(1, 0), 0);
        s.due("not held", w.words(1, 1), 0);
        s.says("WORDS, BREAK of one who is not HELD: none, bits 0.");
        NailedByWord z = Sentences.nailed(12, 5);
        z.mend(0, 1, 0);
        s.due("words", z.words(0, 0), 0);
        s.due("which words", z.words(0, 1), 0);
        s.due("break", z.breaks(0, 0), 0);
        s.due("which to break", z.breaks(0, 1), 0);
        s.due("of one with no promises", z.words(1, 1), 0);
        s.due("of one with no promises", z.breaks(1, 1), 0);
    }

    private static void all() {
        s.says("ALL: the fewest PEOPLE who let off all that was promised TO them by which nobody is HELD: how many; who"
            + " (bits; of like ones the least).");
        NailedByWord x = new NailedByWord();
        s.due("nobody there", x.all(0), 0);
        s.due("nobody there", x.all(1), 0);
        for (int one = 0; one < 6; one++) {
            x.person(one);
        }
        s.due("nobody held", x.all(1), 0);
        for (int one = 0; one < 6; one++) {
            x.promise(10 * one + (one + 1) % 6, 999);
        }
        s.due("all six", x.all(0), 6);
        s.due("all six", x.all(1), 63);
        for (int one = 1; one < 6; one++) {
            x.promise(10 * one, 999);
        }
        s.due("more words, as many people", x.all(0), 6);
        Sentences.tell(x, "o*9");
        s.due("held by two, of which one is enough", x.all(0), 1);
        s.due("0, to whom all five promised", x.all(1), 1);
        NailedByWord w = Sentences.nailed(12, 9);
        s.due("twelve promises to one", w.all(1), 2);
        NailedByWord y = Sentences.town(12, 0, 1, 2);
        Sentences.tell(y, "o*9");
        y.promise(3, 999);
        y.promise(2, 999);
        s.due("either is enough", y.all(0), 1);
        s.due("the least", y.all(1), 4);
    }

    private static void ring() {
        s.says("RING: the fewest PEOPLE each of whom is HELD by a PROMISE TO the next, the last TO the first: how many; NOT.");
        NailedByWord x = new NailedByWord();
        s.due("nobody", x.ring(), NOT);
        x.person(12);
        x.person(12);
        x.promise(1, 999);
        s.due("one way", x.ring(), NOT);
        x.promise(10, 599);
        s.due("too light", x.ring(), NOT);
        x.mend(1, 3, 6);
        s.due("two, the fewest that can be", x.ring(), 2);
        x.mend(1, 4, 1);
        s.due("not on", x.ring(), NOT);
        NailedByWord y = Sentences.town(0, 1, 2, 3, 4, 5);
        for (int one = 0; one < 5; one++) {
            y.promise(10 * one + one + 1, 999);
        }
        s.due("a chain of six", y.ring(), NOT);
        y.promise(50, 999);
        s.due("all six", y.ring(), 6);
        y.promise(53, 999);
        s.due("three at its end", y.ring(), 3);
    }

    private static void breaks() {
        s.says("BREAK: PROMISES of one ON where he stands, no more than BOOTS, which broken (GONE; BOOTS less by as many)"
            + " leave him not HELD, of which WEIGHT together is least: that; which (bits; of like ones the least); NOT.");
        NailedByWord x = Sentences.nailed(9, 9);
        x.mend(0, 1, 9);
        s.due("nine boots for nine", x.breaks(0, 0), 81);
        s.due("nine boots for nine", x.breaks(0, 1), 511);
        x.mend(0, 1, 8);
        s.due("eight boots", x.breaks(0, 0), NOT);
        s.due("eight boots", x.breaks(0, 1), NOT);
        x.mend(0, 1, 0);
        s.due("no boots", x.breaks(0, 0), NOT);
        NailedByWord y = Sentences.nailed(2, 9);
        Sentences.tell(y, "b>2?9;0");
        s.due("a boot less, and the other holds no more", y.breaks(0, 0), 9);
        s.due("the least", y.breaks(0, 1), 1);
        y.mend(1, 3, 0);
        s.due("no weight at all", y.breaks(0, 0), 0);
        s.due("which", y.breaks(0, 1), 2);
        Sentences.tell(y, "b<3?9;3");
        s.due("a boot less holds him the more", y.breaks(0, 1), 3);
        y.promise(1, 5);
        y.mend(2, 2, 13);
        Sentences.tell(y, "3");
        s.due("not what is elsewhere", y.breaks(0, 1), 3);
        NailedByWord z = Sentences.nailed(3, 0);
        Sentences.tell(z, "o>1?9;0");
        s.due("weights 0", z.breaks(0, 0), 0);
        s.due("the least bits", z.breaks(0, 1), 1);
        s.due("no boot was lost", z.of(0, 1), 3);
    }

    private static void seen() {
        s.says("SEEN: a ROW of bytes: PLACES of one behind 0, 1, 2 .. days (99: not seen; 31 at most count)");
        NailedByWord x = Sentences.town(12);
        Sentences.alike(x, 0, 60, 4);
        Sentences.alike(x, 1, 31, 12);
        s.due("31", x.judge(1, 0), NOT);
        s.due("31", x.can(1, 0), 1);
        s.due("31", x.who(1), 1);
        x.put(1, 30, 24);
        s.due("the 31st counts", x.judge(1, 0), 30);
        s.due("the 31st is too far from the 30th", x.can(1, 0), 0);
        s.due("the 31st is too far from the 30th", x.who(1), 0);
        Sentences.alike(x, 1, 60, 12);
        x.put(1, 31, 0);
        s.due("the 32nd does not count", x.judge(1, 0), NOT);
        s.due("the 32nd does not count", x.can(1, 0), 1);
        s.due("the 32nd does not count", x.who(1), 1);
        x.put(1, 31, 100);
        s.due("the 32nd may be anything", x.can(1, 0), 1);
        Sentences.alike(x, 1, 31, 99);
        s.due("not seen", x.judge(1, 0), NOT);
        s.due("not seen", x.can(1, 0), 1);
        for (int place = 0; place < 25; place++) {
            NailedByWord z = Sentences.town(place);
            Sentences.bytes(z, 0, 99, 99, place);
            s.due("not seen at " + place, z.can(0, 0), 1);
        }
        s.says("each next one (seen or not) one STEP or none on, none, if he is HELD there that DAY");
        NailedByWord y = Sentences.town(12, 0);
        y.promise(1, 902);
        y.mend(0, 2, 13);
        int[][] sights = {{12, 12}, {12, 13}, {12, 14}, {12, 18}, {12, 99, 14}, {12, 13, 14}, {12, 13, 13, 14},
            {12, 13, 13, 13, 14}, {12, 99, 18, 19}, {12, 99, 99, 15}, {12, 99, 99, 20}, {99, 12}, {99, 17}, {99, 6}};
        int[] can = {1, 1, 0, 0, 0, 0, 0, 1, 1, 1, 0, 1, 1, 0};
        for (int i = 0; i < sights.length; i++) {
            Sentences.bytes(y, 0, sights[i]);
            s.due("sight " + i, y.can(0, 0), can[i]);
        }
        Sentences.bytes(y, 0, 4, 5);
        y.mend(0, 0, 4);
        s.due("not over the edge", y.can(0, 0), 0);
        Sentences.bytes(y, 0, 20, 0);
        y.mend(0, 0, 20);
        s.due("not over the edge", y.can(0, 0), 0);
    }

    private static void judged() {
        s.says("JUDGED by a ROUTE in another ROW: the first that is not so (more than STEPS and one, too); NOT.");
        NailedByWord x = Sentences.town(12, 0);
        Sentences.bytes(x, 0, 1, 1);
        Sentences.bytes(x, 1);
        s.due("nothing seen", x.judge(1, 0), NOT);
        Sentences.bytes(x, 1, 11, 0, 0);
        s.due("the first", x.judge(1, 0), 0);
        Sentences.bytes(x, 1, 12, 12, 0);
        s.due("the second", x.judge(1, 0), 1);
        Sentences.bytes(x, 1, 12, 13, 14);
        s.due("steps and one", x.judge(1, 0), NOT);
        Sentences.bytes(x, 1, 12, 13, 14, 14);
        s.due("more than steps and one", x.judge(1, 0), 3);
        Sentences.bytes(x, 1, 99, 99, 99, 99, 99);
        s.due("more than steps and one, not seen", x.judge(1, 0), 3);
        Sentences.bytes(x, 0);
        Sentences.bytes(x, 1, 12);
        s.due("no steps, and one", x.judge(1, 0), NOT);
        Sentences.bytes(x, 1, 12, 12);
        s.due("no steps, and two", x.judge(1, 0), 1);
        Sentences.bytes(x, 0, 4, 7, 4);
        Sentences.bytes(x, 1, 12, 12, 12);
        s.due("a route that ends", x.judge(1, 0), 2);
        x.promise(1, 999);
        Sentences.bytes(x, 0, 1, 1);
        Sentences.bytes(x, 1, 12, 12, 12);
        s.due("held", x.judge(1, 0), NOT);
        s.says("SEEN: other numbers than PLACES, 99 are not so; the first is where he stands.");
        int[] other = {-1, 25, 98, 100, 127, -128};
        for (int v : other) {
            Sentences.bytes(x, 1, 12, v);
            s.due("judge " + v, x.judge(1, 0), 1);
            s.due("can " + v, x.can(1, 0), 0);
            s.due("who " + v, x.who(1), 0);
            Sentences.bytes(x, 1, v);
            s.due("judge " + v + " at once", x.judge(1, 0), 0);
            s.due("can " + v + " at once", x.can(1, 0), 0);
        }
        Sentences.bytes(x, 1, 13);
        s.due("beside him", x.judge(1, 0), 0);
        s.due("beside him", x.can(1, 0), 0);
        Sentences.bytes(x, 1, 0);
        s.due("where the other one stands", x.who(1), 2);
    }

    private static void canAndWho() {
        s.says("CAN: whether there are any STEPS by which all seen of one is so (1, 0), from where he stands.");
        NailedByWord x = Sentences.town(12, 12);
        x.row(0, 0, 0);
        s.due("nothing seen", x.can(0, 0), 1);
        Sentences.bytes(x, 0, 12);
        s.due("where he stands", x.can(0, 0), 1);
        Sentences.bytes(x, 0, 12, 99, 99, 99, 24);
        s.due("just so far", x.can(0, 0), 1);
        Sentences.bytes(x, 0, 12, 99, 99, 24);
        s.due("too far", x.can(0, 0), 0);
        x.mend(0, 9, 98);
        x.promise(1, 999);
        Sentences.alike(x, 0, 31, 12);
        s.due("held up to day 99, which stays", x.can(0, 0), 1);
        x.put(0, 30, 13);
        s.due("held up to day 99, which stays", x.can(0, 0), 0);
        x.mend(0, 5, 98);
        s.due("free on 99", x.can(0, 0), 1);
        s.says("WHO: which PEOPLE (bits) it can be.");
        NailedByWord y = new NailedByWord();
        Sentences.bytes(y, 0, 99);
        s.due("nobody there", y.who(0), 0);
        for (int one = 0; one < 6; one++) {
            y.person(one);
        }
        s.due("all six", y.who(0), 63);
        y.row(0, 0, 0);
        s.due("nothing seen: all six", y.who(0), 63);
        Sentences.bytes(y, 0, 5);
        s.due("the last alone", y.who(0), 32);
        Sentences.bytes(y, 0, 24);
        s.due("nobody", y.who(0), 0);
    }

    private static void feed() {
        s.says("FEED: the least way from a PLACE round by all PLACES where somebody is HELD and back"
            + " (X and Y apart, added): how far; the k-th PLACE (of like ones the first by PLACES; NOT: there are not as many).");
        NailedByWord x = Sentences.town(0, 4, 20, 24, 2, 22);
        s.due("nobody held", x.feeds(12, -1), 0);
        s.due("nobody held", x.feeds(12, 0), NOT);
        for (int one = 0; one < 6; one++) {
            x.promise(10 * one + (one + 1) % 6, 999);
        }
        s.due("six", x.feeds(12, -1), 20);
        int[] order = {0, 2, 4, 24, 20, 22};
        for (int k = 0; k < 6; k++) {
            s.due("stop " + k, x.feeds(12, k), order[k]);
        }
        s.due("no seventh", x.feeds(12, 6), NOT);
        s.due("most", x.feeds(12, MOST), NOT);
        s.due("k -2", x.feeds(12, -2), BAD);
        s.due("least", x.feeds(12, LEAST), BAD);
        NailedByWord y = Sentences.nailed(1, 9);
        s.due("he is held where it begins", y.feeds(12, -1), 0);
        s.due("which is a stop", y.feeds(12, 0), 12);
        s.due("the only one", y.feeds(12, 1), NOT);
        s.due("from the corner", y.feeds(24, -1), 8);
        s.says("FEED: each such PLACE once.");
        NailedByWord z = Sentences.town(7, 7, 7, 9);
        z.promise(1, 999);
        z.promise(12, 999);
        z.promise(20, 999);
        z.promise(30, 999);
        s.due("three held at one", z.feeds(5, -1), 8);
        s.due("it once", z.feeds(5, 0), 7);
        s.due("the other one", z.feeds(5, 1), 9);
        s.due("no third", z.feeds(5, 2), NOT);
    }

    private static void odds() {
        s.says("ODDS: each PROMISE ON where one stands is FORGOTTEN or not, all alike likely (12 of them at most): how likely"
            + " he is not HELD: a fraction in lowest terms.");
        NailedByWord x = Sentences.town(12, 0);
        s.due("none there", x.odds(0, 0), 1);
        s.due("none there", x.odds(0, 1), 1);
        long below = 1;
        for (int p = 0; p < 12; p++) {
            x.promise(1, 999);
            below *= 2;
            s.due("above", x.odds(0, 0), 1);
            s.due("below, of " + (p + 1), x.odds(0, 1), below);
        }
        Sentences.tell(x, "9");
        s.due("never", x.odds(0, 0), 0);
        s.due("never, in lowest terms", x.odds(0, 1), 1);
        Sentences.tell(x, "0");
        s.due("always", x.odds(0, 0), 1);
        s.due("always, in lowest terms", x.odds(0, 1), 1);
        Sentences.tell(x, "w*!f");
        for (int p = 1; p < 12; p++) {
            x.mend(p, 3, 0);
        }
        s.due("one of twelve matters", x.odds(0, 0), 1);
        s.due("in lowest terms", x.odds(0, 1), 2);
        x.mend(0, 5, 0);
        x.mend(0, 9, 1);
        s.due("it is over", x.odds(0, 1), 1);
        NailedByWord w = Sentences.nailed(3, 9);
        Sentences.tell(w, "o=2&!f?9;0");
        s.due("two others are there, forgotten or not", w.odds(0, 1), 8);
        Sentences.tell(w, "o=1&!f?9;0");
        s.due("not one", w.odds(0, 1), 1);
        Sentences.tell(w, "o=3&!f?9;0");
        s.due("not three", w.odds(0, 1), 1);
        s.says("ODDS: all others are FORGOT as they are.");
        NailedByWord y = Sentences.nailed(2, 9);
        y.mend(1, 2, 13);
        s.due("what is elsewhere does not count", y.odds(0, 1), 2);
        y.forget(1);
        y.forget(0);
        s.due("what is there is forgotten or not all the same", y.odds(0, 1), 2);
        y.promise(10, 999);
        y.mend(2, 2, 12);
        s.due("nor the other one's", y.odds(0, 1), 2);
        s.due("forgot as it was", y.of(0, 6), 1);
    }

    private static void rued() {
        s.says("RUED: which PROMISES (bits) of one, not GONE, no ROUTE of t (0 .. 8) STEPS keeps.");
        NailedByWord x = Sentences.town(0, 1);
        s.due("none", x.rued(0, 8), 0);
        x.promise(1, 499);
        x.mend(0, 2, 24);
        s.due("t -1", x.rued(0, -1), BAD);
        s.due("t 9", x.rued(0, 9), BAD);
        s.due("t 0", x.rued(0, 0), 1);
        s.due("t 7", x.rued(0, 7), 1);
        s.due("t 8: just there", x.rued(0, 8), 0);
        x.mend(0, 5, 8);
        s.due("its last day", x.rued(0, 8), 0);
        x.mend(0, 5, 7);
        s.due("over a day ahead", x.rued(0, 8), 1);
        x.mend(0, 7, 1);
        s.due("gone", x.rued(0, 8), 0);
        s.due("the other one's", x.rued(1, 8), 0);
        NailedByWord y = Sentences.nailed(12, 9);
        s.due("all kept", y.rued(0, 0), 0);
        for (int p = 0; p < 12; p++) {
            y.mend(p, 4, 1);
            y.mend(p, 5, 0);
        }
        s.due("never on: all twelve", y.rued(0, 8), 4095);
        s.says("RUED: ON as a DAY begins, or behind the last.");
        NailedByWord z = Sentences.nailed(1, 4);
        z.mend(0, 4, 3);
        s.due("on behind the third", z.rued(0, 3), 0);
        s.due("not behind the second", z.rued(0, 2), 1);
        z.mend(0, 4, 0);
        z.mend(0, 5, 0);
        s.due("on as the first begins", z.rued(0, 8), 0);
        z.mend(0, 5, 99);
        z.mend(0, 4, 99);
        z.mend(0, 9, 92);
        s.due("99 behind seven", z.rued(0, 7), 0);
        s.due("98 behind six", z.rued(0, 6), 1);
    }

    private static void turns() {
        s.says("BY TURNS: man and child, n (1 .. 5) deeds in all, the man first: the man does a STEP 0 .. 3, or none (4),"
            + " as far as he is not HELD (DAY goes on by one behind each of his)");
        NailedByWord x = Sentences.town(0, 1);
        s.due("n 0", x.byTurns(1, 24, 0, 0), BAD);
        s.due("n 6", x.byTurns(1, 24, 6, 0), BAD);
        s.due("n -1", x.byTurns(1, 24, -1, 0), BAD);
        int[] far = {7, 7, 6, 6, 5};
        for (int n = 1; n < 6; n++) {
            s.due("n " + n, x.byTurns(1, 24, n, 0), far[n - 1]);
        }
        x.promise(1, 999);
        s.due("held", x.byTurns(1, 24, 5, 0), 8);
        x.mend(0, 5, 0);
        s.due("held on day 0", x.byTurns(1, 24, 1, 0), 8);
        s.due("free on day 1", x.byTurns(1, 24, 3, 0), 7);
        x.mend(0, 5, 1);
        s.due("free on day 2", x.byTurns(1, 24, 3, 0), 8);
        s.due("free on day 2", x.byTurns(1, 24, 5, 0), 7);
        x.mend(0, 9, 98);
        x.mend(0, 4, 98);
        x.mend(0, 5, 99);
        s.due("99 stays", x.byTurns(1, 24, 5, 0), 8);
        x.mend(0, 5, 98);
        s.due("free on 99", x.byTurns(1, 24, 5, 0), 6);
        s.says("the man wants to be as near as may be to a told PLACE behind them (X and Y apart, added), the child as far");
        NailedByWord w = Sentences.town(24, 1);
        s.due("as far as can be, one step", w.byTurns(1, 0, 1, 0), 7);
        s.due("he is there and stays", w.byTurns(1, 24, 5, 0), 0);
        s.due("just there", w.byTurns(1, 18, 3, 0), 0);
        s.due("the child's deed is no step", w.byTurns(1, 18, 2, 0), 1);
        w.promise(1, 999);
        s.due("held in the farthest corner", w.byTurns(1, 0, 5, 0), 8);
        Sentences.tell(w, "f?9;0");
        s.due("held once it forgets: he is away by then", w.byTurns(1, 0, 3, 0), 6);
        s.says("that, if both do their best; his first STEP (of like ones 4 first, then the least).");
        NailedByWord y = Sentences.town(12, 0);
        s.due("all the way is a step: 4 is not as good", y.byTurns(1, 24, 5, 1), 1);
        s.due("right ahead of down", y.byTurns(1, 18, 1, 1), 1);
        s.due("up ahead of left", y.byTurns(1, 6, 1, 1), 0);
        s.due("down ahead of left", y.byTurns(1, 16, 1, 1), 2);
        s.due("left", y.byTurns(1, 10, 1, 1), 3);
        s.due("none", y.byTurns(1, 12, 1, 1), 4);
        s.due("time enough", y.byTurns(1, 13, 3, 1), 4);
        y.mend(0, 0, 0);
        s.due("none ahead of one over the edge", y.byTurns(1, 0, 1, 1), 4);
        y.promise(1, 999);
        s.due("held", y.byTurns(1, 24, 1, 1), 4);
    }

    private static void turnsOfTheChild() {
        s.says("the child forgets one of PROMISES TO it (the least that is not FORGOT, ON or not, GONE or not), or does nothing");
        NailedByWord x = Sentences.town(12, 0, 1);
        Sentences.tell(x, "f*9");
        x.promise(1, 999);
        x.mend(0, 2, 13);
        s.due("it forgets, and he is held on the way", x.byTurns(1, 14, 3, 0), 1);
        x.promise(21, 999);
        s.due("the least is first", x.byTurns(1, 14, 3, 0), 1);
        NailedByWord y = Sentences.town(12, 0, 1);
        Sentences.tell(y, "f*9");
        y.promise(21, 999);
        y.promise(1, 999);
        y.mend(1, 2, 13);
        s.due("another's is the least", y.byTurns(1, 14, 3, 0), 0);
        y.mend(0, 4, 50);
        s.due("on or not", y.byTurns(1, 14, 3, 0), 0);
        y.mend(0, 7, 1);
        s.due("gone or not", y.byTurns(1, 14, 3, 0), 0);
        y.mend(0, 6, 1);
        s.due("but not what is forgot", y.byTurns(1, 14, 3, 0), 1);
        y.mend(1, 6, 1);
        s.due("nothing is left to forget: he is held there", y.byTurns(1, 14, 3, 0), 1);
        Sentences.tell(y, "w*!f");
        y.mend(1, 6, 0);
        y.mend(1, 2, 12);
        s.due("to forget would free him: it does nothing", y.byTurns(1, 14, 5, 0), 2);
        s.due("promised to another one", y.byTurns(2, 14, 5, 0), 2);
        s.due("nobody forgot in deed", y.of(1, 6), 0);
        NailedByWord z = Sentences.nailed(12, 9);
        s.due("twelve to it, of which it can forget two", z.byTurns(1, 14, 5, 0), 2);
        y.mend(1, 2, 13);
        s.due("he goes to 13, and it does nothing, so that he is held there", y.byTurns(1, 14, 3, 0), 1);
        s.due("nothing is gained by going", y.byTurns(1, 13, 3, 1), 4);
        s.due("no day passed in deed", y.of(0, 9), 0);
    }
}
