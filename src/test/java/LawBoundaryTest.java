/** Section 1 of the document up to the law: what each of its sentences says of the least, the most, and beyond. */
public final class LawBoundaryTest {
    private static final int BAD = Sentences.BAD, FULL = Sentences.FULL;
    private static Sentences s;

    private LawBoundaryTest() {
    }

    public static void main(String[] args) throws Exception {
        s = new Sentences();
        places();
        people();
        promises();
        holdsAndDay();
        tape();
        lines();
        grammar();
        names();
        others();
        open();
        ints();
        whichLineCounts();
        faults();
        within();
        withoutText();
        on();
        holds();
        s.end();
    }

    /** How hard promise 0 is by a law: weight 7, 6 days left, 3 boots, alone, not forgot, day 5. */
    private static void worth(String law, int want) {
        NailedByWord x = Sentences.town(3, 4);
        x.mend(0, 9, 5);
        x.promise(1, 711);
        s.due("law " + law, Sentences.tell(x, law), 1);
        s.due("worth of " + law, x.hard(0), want);
    }

    private static void fault(String law, int place) {
        s.due("law " + law, Sentences.tell(new NailedByWord(), law), -100 - place);
    }

    private static String times(int n, String part) {
        return part.repeat(n);
    }

    private static void places() {
        s.says("24: 5 Y and X (X, Y 0 .. 4).");
        NailedByWord x = new NailedByWord();
        s.due("-1", x.person(-1), BAD);
        s.due("25", x.person(25), BAD);
        s.due("0", x.person(0), 0);
        s.due("24", x.person(24), 1);
        s.due("X 4, Y 0", x.person(4), 2);
        s.due("X 0, Y 1", x.person(5), 3);
        s.due("0 is X 0, Y 0: right of it", x.step(0, 1), 1);
        s.due("24 is X 4, Y 4: up from it", x.step(1, 0), 19);
        s.due("no X 5", x.step(2, 1), 4);
        s.due("no X -1", x.step(3, 3), 5);
    }

    private static void people() {
        s.says("PEOPLE 0 .. 5, as they come: PLACE, BOOTS (0 .. 9; 3 at first).");
        NailedByWord x = new NailedByWord();
        s.due("nobody yet", x.of(0, 0), BAD);
        for (int i = 0; i < 6; i++) {
            s.due("as they come", x.person(24 - i), i);
            s.due("place", x.of(i, 0), 24 - i);
            s.due("boots at first", x.of(i, 1), 3);
            s.due("the next is not yet there", x.of(i + 1, 0), BAD);
        }
        s.due("no 6", x.person(3), FULL);
        s.due("no -1", x.of(-1, 0), BAD);
        s.due("boots -1", x.mend(5, 1, -1), BAD);
        s.due("boots 10", x.mend(5, 1, 10), BAD);
        s.due("boots 0", x.mend(5, 1, 0), 3);
        s.due("boots 9", x.mend(5, 1, 9), 0);
        s.due("boots", x.of(5, 1), 9);
    }

    private static void promises() {
        s.says("PROMISES 0 .. 11, as they come: BY (one of PEOPLE), TO (another one), AT (a PLACE),"
            + " WEIGHT (0 .. 9; 5 at first), FROM, TILL (DAYS 0 .. 99; 0 and 99 at first), FORGOT (0, 1; 0 at first),"
            + " GONE (0, 1; 0 at first: broken, or let off).");
        NailedByWord x = Sentences.town(24, 0);
        s.due("by nobody", x.promise(21, 500), BAD);
        s.due("to nobody", x.promise(2, 500), BAD);
        s.due("to himself", x.promise(0, 500), BAD);
        for (int i = 0; i < 12; i++) {
            s.due("the next is not yet there", x.of(i, 3), BAD);
            s.due("as they come", x.promise(1, 100 * (i % 10) + 88 + i), i);
            s.due("weight", x.of(i, 3), i % 10);
            s.due("till", x.of(i, 5), 88 + i);
            s.due("from", x.of(i, 4), 0);
            s.due("forgot at first", x.of(i, 6), 0);
            s.due("gone at first", x.of(i, 7), 0);
        }
        s.due("no 12", x.promise(1, 500), FULL);
        s.due("at -1", x.mend(11, 2, -1), BAD);
        s.due("at 25", x.mend(11, 2, 25), BAD);
        s.due("weight -1", x.mend(11, 3, -1), BAD);
        s.due("weight 10", x.mend(11, 3, 10), BAD);
        s.due("from -1", x.mend(11, 4, -1), BAD);
        s.due("from 100", x.mend(11, 4, 100), BAD);
        s.due("till -1", x.mend(11, 5, -1), BAD);
        s.due("till 100", x.mend(11, 5, 100), BAD);
        s.due("forgot 2", x.mend(11, 6, 2), BAD);
        s.due("forgot -1", x.mend(11, 6, -1), BAD);
        s.due("gone 2", x.mend(11, 7, 2), BAD);
        s.due("gone -1", x.mend(11, 7, -1), BAD);
        s.due("let off", x.letOff(11), 1);
        s.due("is gone", x.of(11, 7), 1);
        s.due("broken", x.pull(9), 2);
        s.due("is gone", x.of(9, 7), 1);
    }

    private static void holdsAndDay() {
        s.says("HOLDS (1 .. 9; 3 at first), DAY (0 .. 99; 0 at first).");
        NailedByWord x = new NailedByWord();
        s.due("holds at first", x.of(0, 8), 3);
        s.due("day at first", x.of(0, 9), 0);
        s.due("holds 0", x.mend(0, 8, 0), BAD);
        s.due("holds 10", x.mend(0, 8, 10), BAD);
        s.due("holds 1", x.mend(0, 8, 1), 3);
        s.due("holds 9", x.mend(0, 8, 9), 1);
        s.due("day -1", x.mend(0, 9, -1), BAD);
        s.due("day 100", x.mend(0, 9, 100), BAD);
        s.due("day 99", x.mend(0, 9, 99), 0);
        s.due("day 0", x.mend(0, 9, 0), 99);
        s.due("holds then", x.of(0, 8), 9);
    }

    private static void tape() {
        s.says("THE LAW is a TEXT by THE TAPE (at most 120 bytes)");
        String most = "9" + times(59, "-0") + ";";
        s.due("its bytes, and a last one", most.length() + 1, 121);
        worth(times(59, "0+") + "07", 7);
        NailedByWord x = Sentences.town(3, 4);
        x.promise(1, 299);
        for (int i = 0; i < 120; i++) {
            s.due("one more", x.feed(most.charAt(i)), i + 1);
        }
        s.due("the 121st does not come", x.feed('5'), FULL);
        s.due("so the line behind ; is missing", x.law(), -220);
        s.due("w by 2, without a text", x.hard(0), 1);
        s.due("and room again", x.feed('8'), 1);
        s.due("which is a law of one byte", x.law(), 1);
        s.due("hard", x.hard(0), 8);
    }

    private static void lines() {
        s.says("LINES, one or more, parted by ; .");
        fault("", 0);
        fault(";", 0);
        fault("1;", 2);
        fault("1;;2", 2);
        fault(";1", 0);
        worth("4", 4);
        worth(times(29, "0?1;") + "6", 6);
        worth("f?1" + times(38, ";f") + ";7", 0);
    }

    private static void grammar() {
        s.says("LINE: E, or E ? E (what counts if the first is not 0).");
        worth("1?6;2", 6);
        worth("-1?6;2", 6);
        worth("0?6;2", 2);
        fault("1?", 2);
        fault("?1", 0);
        fault("1?2?3", 3);
        fault("(1?2)", 2);
        s.says("E = A { | A }.");
        worth("0" + times(59, "|0"), 0);
        worth("0" + times(58, "|0") + "|7", 1);
        fault("1|", 2);
        fault("1||1", 2);
        s.says("A = B { & B }.");
        worth("1" + times(59, "&1"), 1);
        worth("1" + times(58, "&1") + "&0", 0);
        fault("1&", 2);
        fault("1&&1", 2);
        s.says("B = S, or S < S, S = S, S > S.");
        fault("1<2<3", 3);
        fault("1=1=1", 3);
        fault("3>2>1", 3);
        fault("1<=2", 2);
        worth("(1<2)<3", 1);
        worth("1<2&2<3|3>4", 1);
        s.says("S = P { + P, - P }.");
        worth("8" + times(29, "+1-1"), 8);
        worth("9-4-3", 2);
        fault("+1", 0);
        fault("1+", 2);
        s.says("P = O { * O, / O, % O }.");
        worth("1" + times(59, "*1"), 1);
        worth("7/2*2", 6);
        worth("8%5*2", 6);
        fault("2**3", 2);
        fault("2*", 2);
        s.says("O = a number (1 to 4 digits), a NAME, ! O, - O, ( E ).");
        worth("9999-9991", 8);
        worth("0", 0);
        worth("0000", 0);
        fault("10000", 4);
        fault("00001", 4);
        fault("1+12345", 6);
        fault("w7", 1);
        fault("7w", 1);
        fault("ww", 1);
        fault("!", 1);
        fault("-", 1);
        fault("(", 1);
        fault("()", 1);
        fault("(1", 2);
        fault(")", 0);
        fault("a", 0);
        fault("W", 0);
        s.says("No blanks.");
        fault(" ", 0);
        fault(" w", 0);
        fault("w ", 1);
        fault("w +1", 1);
        fault("w+ 1", 2);
        fault("w;\n1", 2);
        fault("1 2", 1);
    }

    private static void names() {
        s.says("w WEIGHT, d how many DAYS are left to TILL (0 at least), b BOOTS of BY,");
        NailedByWord x = Sentences.town(3, 4);
        x.promise(1, 9);
        Sentences.tell(x, "d");
        int[] left = {9, 8, 1, 0, 0, 0};
        int[] days = {0, 1, 8, 9, 10, 99};
        for (int i = 0; i < 6; i++) {
            x.mend(0, 9, days[i]);
            s.due("days left on " + days[i], x.hard(0), left[i]);
        }
        Sentences.tell(x, "d+5");
        s.due("never below 0", x.hard(0), 5);
        Sentences.tell(x, "w");
        s.due("weight 0", x.hard(0), 0);
        x.mend(0, 3, 9);
        s.due("weight 9", x.hard(0), 9);
        Sentences.tell(x, "b");
        x.mend(0, 1, 0);
        s.due("no boots", x.hard(0), 0);
        x.mend(0, 1, 9);
        x.mend(1, 1, 2);
        s.due("nine boots of by, not of to", x.hard(0), 9);
        Sentences.tell(x, "d=99&y=0");
        x.mend(0, 9, 0);
        x.mend(0, 5, 99);
        s.due("99 days are left", x.hard(0), 1);
        Sentences.tell(x, "y=99");
        x.mend(0, 9, 99);
        s.due("day 99", x.hard(0), 1);
        Sentences.tell(x, "f*2+1");
        s.due("not forgot", x.hard(0), 1);
        x.mend(0, 6, 1);
        s.due("forgot", x.hard(0), 3);
    }

    private static void others() {
        s.says("o how many other PROMISES of BY, not GONE, are AT this PLACE on this DAY");
        NailedByWord x = Sentences.nailed(1, 5);
        Sentences.tell(x, "o");
        s.due("alone", x.hard(0), 0);
        x.promise(1, 599);
        s.due("one other", x.hard(0), 1);
        s.due("and the other way round", x.hard(1), 1);
        x.mend(1, 4, 7);
        x.mend(1, 5, 9);
        int[] days = {6, 7, 9, 10};
        int[] on = {0, 1, 1, 0};
        for (int i = 0; i < 4; i++) {
            x.mend(0, 9, days[i]);
            s.due("from 7 to 9, on " + days[i], x.hard(0), on[i]);
        }
        x.mend(0, 9, 8);
        x.mend(1, 7, 1);
        s.due("gone", x.hard(0), 0);
        x.mend(1, 7, 0);
        x.mend(1, 2, 13);
        s.due("elsewhere", x.hard(0), 0);
        x.promise(10, 599);
        x.mend(2, 2, 12);
        s.due("another one's", x.hard(0), 0);
        NailedByWord y = Sentences.nailed(12, 5);
        Sentences.tell(y, "o-2");
        s.due("eleven others", y.hard(11), 9);
        Sentences.tell(y, "o=11");
        s.due("eleven others", y.hard(0), 1);
    }

    private static void open() {
        s.says("At most 6 of ( ! - ahead of an O are open at once.");
        worth("((((((7))))))", 7);
        fault("(((((((7)))))))", 6);
        worth("!!!!!!7", 1);
        fault("!!!!!!!7", 6);
        worth("------7", 7);
        fault("-------7", 6);
        worth("(!(-(!7)))+5", 6);
        worth("(-(!(-7)))+5", 5);
        worth("(-(!(-f)))+5", 4);
        fault("(-(!(-(7))))", 6);
        fault("(-(!(-!7)))", 6);
        fault("((((((!7))))))", 6);
        fault("((((((-7))))))", 6);
        fault("!-!-!-(7)", 6);
        worth("((((((7))))))+((((((0))))))", 7);
        worth("------7+------1", 8);
        worth("9-------1", 8);
        worth("((((((9-1))))))", 8);
        worth("((((((9))))))-1-1-1-1-1-1-1", 2);
        fault("((((((9))))))+(((((((", 20);
    }

    private static void ints() {
        s.says("Ints that wrap; / and % toward 0, by 0 they give 0; | & < = > ! give 1, 0; all is worked out.");
        worth("9999*9999*9999*9999%10+6", 9999 * 9999 * 9999 * 9999 % 10 + 6);
        String topInt = "8192*8192*31+8192*8191+8191";
        s.due("the greatest int", 8192 * 8192 * 31 + 8192 * 8191 + 8191, Integer.MAX_VALUE);
        worth(topInt + ">0?5;4", 5);
        worth(topInt + "+1<0?5;4", 5);
        worth("8192*8192*32<0?5;4", 5);
        worth("-(8192*8192*32)<0?5;4", 5);
        worth("8192*8192*32/-1<0?5;4", 5);
        worth("8192*8192*32%-1=0?5;4", 5);
        worth("8192*8192*64=0?5;4", 5);
        worth("-8192*8192*32-1>0?5;4", 5);
        worth("-7/2+9", 6);
        worth("7/-2+9", 6);
        worth("-7/-2", 3);
        worth("-7%4+9", 6);
        worth("7%-4+5", 8);
        worth("7/0+4", 4);
        worth("7%0+4", 4);
        worth("0/0+0%0+4", 4);
        worth("7/(w-w)+4", 4);
        worth("8192*8192*32/0+4", 4);
        worth("5|7", 1);
        worth("-5&7", 1);
        worth("0|0", 0);
        worth("7&0", 0);
        worth("(3<9)+(9>3)+(3=3)+(!0)+(5|0)+(5&5)", 6);
        worth("(3<3)+(3>3)+(3=4)+(!5)+(!-1)+(0|0)", 0);
        worth("1|7/0", 1);
        worth("0&7%0", 0);
    }

    private static void whichLineCounts() {
        s.says("The first LINE without a first E, or whose first E is not 0, counts; none: 0.");
        worth("3;4", 3);
        worth("0;4", 0);
        worth("0?3;4", 4);
        worth("0?3;1?4;5", 4);
        worth("2?3;1?4;5", 3);
        worth("1?0;5", 0);
        worth("0?3;0?4", 0);
        worth("0?3", 0);
    }

    private static void faults() {
        s.says("FAULT: the place (from 0) of the first byte with which no TEXT goes on; the length, if it ends too early.");
        fault("x", 0);
        fault("w+x", 2);
        fault("w+(d*", 5);
        fault("w+(d*)", 5);
        fault("w+(d))+", 5);
        fault("w=(d=", 5);
        fault("w" + (char) 0, 1);
        fault("w" + (char) 255, 1);
        fault("w" + (char) ('+' + 128), 1);
        fault(times(59, "w+") + "w)", 119);
        fault(times(60, "w+"), 120);
        fault(times(6, "(") + "w" + times(5, ")"), 12);
        fault("w;x;y", 2);
        fault("xyz(((", 0);
    }

    private static void within() {
        s.says("It gives how hard a PROMISE holds (held within 0 .. 9).");
        worth("9", 9);
        worth("10", 9);
        worth("9999", 9);
        worth("-1", 0);
        worth("-9999*9999", 0);
        worth("0", 0);
        NailedByWord x = Sentences.nailed(1, 0);
        Sentences.tell(x, "99");
        x.mend(0, 8, 9);
        s.due("9 holds by 9", x.held(0, 0), 1);
        s.due("and no more", x.held(0, 1), 9);
    }

    private static void withoutText() {
        s.says("Without a text: w by 2 (cut), and 1, if d is below 3, less 3, if it is FORGOT.");
        NailedByWord x = Sentences.town(3, 4);
        x.promise(1, 20);
        for (int weight = 0; weight < 10; weight++) {
            x.mend(0, 3, weight);
            x.mend(0, 9, 17);
            s.due("3 days are left", x.hard(0), weight / 2);
            x.mend(0, 9, 18);
            s.due("2 days are left", x.hard(0), weight / 2 + 1);
            x.mend(0, 9, 99);
            s.due("over", x.hard(0), weight / 2 + 1);
            x.mend(0, 6, 1);
            s.due("forgot", x.hard(0), Math.max(0, weight / 2 - 2));
            x.mend(0, 9, 17);
            s.due("forgot, 3 days are left", x.hard(0), Math.max(0, weight / 2 - 3));
            x.mend(0, 6, 0);
        }
    }

    private static void on() {
        s.says("A PROMISE is ON, if it is not GONE and DAY is FROM to TILL.");
        NailedByWord x = Sentences.nailed(1, 9);
        x.mend(0, 4, 10);
        x.mend(0, 5, 20);
        int[] days = {0, 9, 10, 11, 20, 21, 99};
        int[] on = {0, 0, 1, 1, 1, 0, 0};
        for (int i = 0; i < 7; i++) {
            x.mend(0, 9, days[i]);
            s.due("held on day " + days[i], x.held(0, 0), on[i]);
            s.due("on, day " + days[i], x.route(shelf(x), 0, 0, 3), on[i]);
        }
        x.mend(0, 5, 10);
        x.mend(0, 9, 10);
        s.due("one day", x.held(0, 0), 1);
        x.mend(0, 7, 1);
        s.due("gone", x.held(0, 0), 0);
        x.mend(0, 7, 0);
        x.mend(0, 5, 9);
        s.due("till ahead of from", x.held(0, 0), 0);
        x.mend(0, 9, 9);
        s.due("till ahead of from", x.held(0, 0), 0);
        x.mend(0, 4, 99);
        x.mend(0, 5, 99);
        x.mend(0, 9, 99);
        s.due("the last day", x.held(0, 0), 1);
    }

    private static int shelf(NailedByWord x) {
        x.row(5, 0, 0);
        return 5;
    }

    private static void holds() {
        s.says("It HOLDS BY, if it is ON, he is AT its PLACE, and THE LAW gives HOLDS or more.");
        NailedByWord x = Sentences.nailed(1, 9);
        Sentences.tell(x, "w");
        for (int holds = 1; holds < 10; holds++) {
            x.mend(0, 8, holds);
            x.mend(0, 3, holds);
            s.due("just " + holds, x.held(0, 0), 1);
            x.mend(0, 3, holds - 1);
            s.due("one less than " + holds, x.held(0, 0), 0);
        }
        justHard();
        x.mend(0, 3, 9);
        x.mend(0, 0, 11);
        s.due("beside its place", x.held(0, 0), 0);
        x.mend(1, 0, 12);
        s.due("not who it was promised to", x.held(1, 0), 0);
        s.says("Who is HELD by one or more cannot step.");
        NailedByWord y = Sentences.nailed(12, 9);
        s.due("held by twelve", y.step(0, 0), 12);
        for (int p = 0; p < 11; p++) {
            y.letOff(p);
        }
        s.due("held by one", y.held(0, 0), 1);
        s.due("he stays", y.step(0, 0), 12);
        y.letOff(11);
        s.due("held by none", y.step(0, 0), 7);
    }

    /** Each thought of one whose promise is just as hard as HOLDS, and of one whose is one less. */
    private static void justHard() {
        for (int less = 0; less < 2; less++) {
            NailedByWord x = Sentences.nailed(1, 5 - less);
            Sentences.tell(x, "f?0;w");
            x.mend(0, 8, 5);
            Sentences.bytes(x, 0, 1);
            Sentences.bytes(x, 1, 12, 13);
            boolean held = less == 0;
            s.due("route", x.route(0, 1, 0, 0), held ? 12 : 13);
            s.due("free", x.free(0), held ? 24 : 25);
            s.due("soonest", x.soonest(0, 13), held ? Sentences.NOT : 1);
            s.due("words", x.words(0, 0), held ? 1 : 0);
            s.due("all", x.all(0), held ? 1 : 0);
            s.due("breaks", x.breaks(0, 1), held ? 1 : 0);
            s.due("judge", x.judge(1, 0), held ? 1 : Sentences.NOT);
            s.due("can", x.can(1, 0), held ? 0 : 1);
            s.due("feeds", x.feeds(12, 0), held ? 12 : Sentences.NOT);
            s.due("odds", x.odds(0, 1), held ? 2 : 1);
            s.due("byTurns", x.byTurns(1, 13, 1, 0), held ? 1 : 0);
            s.due("drawn", x.drawn(0, 101, 0, -1), held ? 1 : 0);
            s.due("pull", x.pull(0), held ? 2 : Sentences.STATE);
            NailedByWord y = Sentences.nailed(1, 5 - less);
            Sentences.tell(y, "f*w");
            y.mend(0, 8, 5);
            s.due("odds of one that holds when it is forgotten", y.odds(0, 1), held ? 2 : 1);
            NailedByWord z = Sentences.nailed(1, 5 - less);
            Sentences.tell(z, "w");
            z.mend(0, 8, 5);
            z.promise(10, 900 + 99);
            s.due("ring", z.ring(), held ? 2 : Sentences.NOT);
        }
    }
}
