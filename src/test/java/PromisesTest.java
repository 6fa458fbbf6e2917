/** Each promise by its number: ordinary inputs, the edges that the document names, wrong inputs. */
public final class PromisesTest {
    private static final int BAD = -1, NOT = -2, FULL = -3, STATE = -5;
    private static final int LEAST = Integer.MIN_VALUE, MOST = Integer.MAX_VALUE;

    private static int wrong = 0;
    private static int asked = 0;

    private PromisesTest() {
    }

    private static void due(int promise, String call, long got, long want) {
        asked++;
        if (got != want) {
            wrong++;
            System.out.println("promise " + promise + ": " + call + " answered " + got + ", due is " + want);
        }
    }

    public static void main(String[] args) {
        newObject();
        person();
        promise();
        promises();
        mend();
        of();
        feed();
        law();
        hard();
        route();
        held();
        best();
        soonest();
        free();
        words();
        all();
        ring();
        breaks();
        judge();
        can();
        who();
        feeds();
        odds();
        rued();
        byTurns();
        byTurnsWithForgetting();
        drawn();
        step();
        pull();
        letOff();
        forget();
        day();
        led();
        image();
        back();
        undo();
        redo();
        body();
        act();
        trace();
        keep();
        row();
        put();
        element();
        shift();
        taken();
        count();
        System.out.println(asked + " asked, " + wrong + " wrong");
        System.exit(wrong == 0 ? 0 : 1);
    }

    /** A town with people at these places. */
    private static NailedByWord town(int... places) {
        NailedByWord x = new NailedByWord();
        for (int place : places) {
            x.person(place);
        }
        return x;
    }

    private static int tell(NailedByWord x, String law) {
        for (char c : law.toCharArray()) {
            x.feed(c);
        }
        return x.law();
    }

    private static void bytes(NailedByWord x, int shelf, int... values) {
        x.row(shelf, 0, values.length);
        for (int i = 0; i < values.length; i++) {
            x.put(shelf, i, values[i]);
        }
    }

    private static void newObject() {
        NailedByWord x = new NailedByWord();
        for (int what = 0; what < 6; what++) {
            due(1, "count " + what, x.count(what), 0);
            due(1, "led " + what, x.led(what), 0);
        }
        due(1, "holds", x.of(0, 8), 3);
        due(1, "day", x.of(0, 9), 0);
        due(1, "nobody", x.of(0, 0), BAD);
        due(1, "nothing on a shelf", x.taken(0, 0), -11);
        due(1, "no image", x.back(), STATE);
        due(1, "void", NailedByWord.VOID, -2000000000);
    }

    private static void person() {
        NailedByWord x = new NailedByWord();
        due(2, "-1", x.person(-1), BAD);
        due(2, "25", x.person(25), BAD);
        due(2, "least", x.person(LEAST), BAD);
        for (int i = 0; i < 6; i++) {
            due(2, "one more", x.person(4 * i), i);
        }
        due(2, "a seventh", x.person(0), FULL);
        due(2, "bad ahead of full", x.person(25), BAD);
        due(2, "place", x.of(5, 0), 20);
        due(2, "boots", x.of(5, 1), 3);
        due(2, "how many", x.count(0), 6);
    }

    private static void promise() {
        NailedByWord x = town(7, 24);
        due(3, "to nobody", x.promise(2, 500), BAD);
        due(3, "by nobody", x.promise(20, 500), BAD);
        due(3, "to himself", x.promise(11, 500), BAD);
        due(3, "-1", x.promise(-1, 500), BAD);
        due(3, "-9", x.promise(-9, 500), BAD);
        due(3, "101", x.promise(101, 500), BAD);
        due(3, "weight below 0", x.promise(1, -1), BAD);
        due(3, "weight -1", x.promise(1, -100), BAD);
        due(3, "weight 10", x.promise(1, 1000), BAD);
        due(3, "least", x.promise(LEAST, LEAST), BAD);
        due(3, "led none", x.led(0), 0);
        x.mend(0, 9, 40);
        due(3, "the first", x.promise(10, 999), 0);
        due(3, "till before today", x.promise(1, 7), 1);
        int[] firstNumbers = {24, 9, 40, 99, 0, 0};
        for (int i = 0; i < 6; i++) {
            due(3, "number " + (i + 2), x.of(0, i + 2), firstNumbers[i]);
        }
        due(3, "by", x.of(0, 10), 1);
        due(3, "to", x.of(0, 11), 0);
        due(3, "at", x.of(1, 2), 7);
        due(3, "till", x.of(1, 5), 7);
        due(3, "from", x.of(1, 4), 40);
        for (int i = 2; i < 12; i++) {
            due(3, "one more", x.promise(1, 0), i);
        }
        due(3, "a thirteenth", x.promise(1, 0), FULL);
        due(3, "bad ahead of full", x.promise(0, 0), BAD);
        due(3, "led", x.led(0), 12);
    }

    private static void promises() {
        NailedByWord x = town(7, 24);
        x.mend(0, 9, 3);
        due(4, "nothing there", x.promises(0, 0, 1), 0);
        due(4, "shelf 6", x.promises(6, 0, 1), BAD);
        due(4, "shelf -1", x.promises(-1, 0, 1), BAD);
        due(4, "n 0", x.promises(0, 0, 0), BAD);
        due(4, "n 13", x.promises(0, 0, 13), BAD);
        x.row(1, 1, 10);
        due(4, "shorts", x.promises(1, 0, 1), -12);
        x.body(0);
        x.keep(2, 0);
        due(4, "a body", x.promises(2, 0, 1), -12);
        due(4, "bad ahead of -12", x.promises(2, 0, 13), BAD);
        bytes(x, 0, 0, 1, 24, 9, 99, 1, 0, 3, 0, 0, 0, 1, 2, 3);
        due(4, "ends within a five", x.promises(0, 0, 12), 2);
        due(4, "beyond the end", x.promises(0, 60, 1), 0);
        due(4, "ahead of the row there is none", x.promises(0, -5, 12), 0);
        due(4, "far ahead of it", x.promises(0, LEAST, 12), 0);
        due(4, "far beyond the end", x.promises(0, MOST, 12), 0);
        due(4, "the last whole five", x.promises(0, 9, 1), 0);
        due(4, "at", x.of(0, 2), 24);
        due(4, "weight", x.of(0, 3), 9);
        due(4, "from today", x.of(0, 4), 3);
        due(4, "till", x.of(0, 5), 99);
        due(4, "by", x.of(1, 10), 1);
        due(4, "to", x.of(1, 11), 0);
        due(4, "led none", x.led(0), 0);
        int[][] amiss = {{2, 1, 0, 0, 0}, {0, 2, 0, 0, 0}, {0, 0, 0, 0, 0}, {0, 1, 25, 0, 0}, {0, 1, 0, 10, 0},
            {0, 1, 0, 0, 100}, {-1, 1, 0, 0, 0}, {0, -1, 0, 0, 0}, {0, 1, -1, 0, 0}, {0, 1, 0, -1, 0}, {0, 1, 0, 0, -1}};
        for (int[] five : amiss) {
            bytes(x, 3, five);
            due(4, "not as it may be", x.promises(3, 0, 1), 0);
        }
        due(4, "how many", x.count(1), 2);
        x.row(4, 0, 60);
        for (int i = 0; i < 12; i++) {
            x.put(4, 5 * i + 1, 1);
        }
        due(4, "only n", x.promises(4, 5, 3), 3);
        due(4, "till full", x.promises(4, 0, 12), 7);
        due(4, "full", x.promises(4, 0, 12), 0);
    }

    private static void mend() {
        NailedByWord x = town(7, 24);
        x.promise(1, 420);
        int[] first = {7, 3, 7, 4, 0, 20, 0, 0, 3, 0};
        int[] least = {0, 0, 0, 0, 0, 0, 0, 0, 1, 0};
        int[] most = {24, 9, 24, 9, 99, 99, 1, 1, 9, 99};
        for (int what = 0; what < 10; what++) {
            due(5, "below, what " + what, x.mend(0, what, least[what] - 1), BAD);
            due(5, "above, what " + what, x.mend(0, what, most[what] + 1), BAD);
            due(5, "no such number, what " + what, x.mend(-1, what, 1), BAD);
            due(5, "no such number, what " + what, x.mend(what < 2 ? 2 : 1, what, 1), BAD);
            due(5, "unchanged, what " + what, x.of(0, what), first[what]);
            due(5, "most, what " + what, x.mend(0, what, most[what]), first[what]);
            due(5, "least, what " + what, x.mend(0, what, least[what]), most[what]);
            due(5, "now, what " + what, x.of(0, what), least[what]);
        }
        due(5, "what 10", x.mend(0, 10, 0), BAD);
        due(5, "what -1", x.mend(0, -1, 0), BAD);
        due(5, "the other one's place", x.mend(1, 0, 3), 24);
        due(5, "changes", x.count(3), 21);
        due(5, "the same number", x.mend(1, 0, 3), 3);
        due(5, "is no change", x.count(3), 21);
    }

    private static void of() {
        NailedByWord x = town(7, 24);
        x.promise(10, 420);
        due(6, "place", x.of(1, 0), 24);
        due(6, "by", x.of(0, 10), 1);
        due(6, "to", x.of(0, 11), 0);
        due(6, "what 12", x.of(0, 12), BAD);
        due(6, "what -1", x.of(0, -1), BAD);
        due(6, "holds of 1", x.of(1, 8), BAD);
        due(6, "day of 1", x.of(1, 9), BAD);
        due(6, "person 2", x.of(2, 0), BAD);
        due(6, "person -1", x.of(-1, 1), BAD);
        for (int what = 2; what < 8; what++) {
            due(6, "promise 1", x.of(1, what), BAD);
            due(6, "promise -1", x.of(-1, what), BAD);
        }
        due(6, "promise 1", x.of(1, 10), BAD);
        due(6, "promise 1", x.of(1, 11), BAD);
    }

    private static void feed() {
        NailedByWord x = new NailedByWord();
        due(7, "-1", x.feed(-1), BAD);
        due(7, "256", x.feed(256), BAD);
        due(7, "0", x.feed(0), 1);
        due(7, "255", x.feed(255), 2);
        for (int i = 3; i <= 120; i++) {
            due(7, "one more", x.feed(i), i);
        }
        due(7, "full", x.feed('w'), FULL);
        due(7, "bad ahead of full", x.feed(256), BAD);
        due(7, "how many", x.count(2), 120);
    }

    private static void law() {
        NailedByWord x = town(7, 24);
        x.promise(1, 899);
        due(8, "an empty tape", x.law(), -100);
        due(8, "still no text", x.hard(0), 4);
        due(8, "a law", tell(x, "w-1"), 1);
        due(8, "is empty", x.count(2), 0);
        due(8, "it holds", x.hard(0), 7);
        due(8, "a fault", tell(x, "w-1)"), -103);
        due(8, "is empty", x.count(2), 0);
        due(8, "the old law", x.hard(0), 7);
        StringBuilder text = new StringBuilder("w");
        for (int i = 0; i < 59; i++) {
            text.append("+0");
        }
        due(8, "119 letters", tell(x, text.toString()), 1);
        due(8, "8", x.hard(0), 8);
        due(8, "120 letters, too early", tell(x, text + "+"), -220);
        due(8, "120 letters", tell(x, text.substring(0, 118) + "00"), 1);
        String names = "w=8&d=99&b=3&o=0&f=0&y=0?5;1";
        due(8, "names", tell(x, names), 1);
        due(8, "all names", x.hard(0), 5);
        x.promise(1, 100);
        due(8, "another one there", x.hard(0), 1);
    }

    private static void hard() {
        NailedByWord x = town(7, 24);
        x.promise(1, 910);
        due(9, "-1", x.hard(-1), BAD);
        due(9, "1", x.hard(1), BAD);
        due(9, "9 by 2", x.hard(0), 4);
        x.mend(0, 9, 7);
        due(9, "3 days left", x.hard(0), 4);
        x.mend(0, 9, 8);
        due(9, "2 days left", x.hard(0), 5);
        x.mend(0, 9, 50);
        due(9, "not on", x.hard(0), 5);
        x.mend(0, 6, 1);
        due(9, "forgot", x.hard(0), 2);
        x.mend(0, 3, 1);
        due(9, "0 at least", x.hard(0), 0);
        x.mend(0, 7, 1);
        x.mend(0, 0, 0);
        tell(x, "d+f*5+2");
        due(9, "gone, elsewhere, none left", x.hard(0), 7);
        tell(x, "9+w");
        due(9, "9 at most", x.hard(0), 9);
        tell(x, "o*2+b");
        x.mend(0, 0, 7);
        x.promise(1, 599);
        x.promise(1, 549);
        x.promise(1, 599);
        x.promise(10, 599);
        x.mend(4, 2, 7);
        x.mend(3, 7, 1);
        due(9, "others on: one of till 99, not what is over, gone, another's", x.hard(0), 5);
        due(9, "others of an on one", x.hard(1), 3);
        x.mend(1, 2, 8);
        due(9, "elsewhere", x.hard(0), 3);
    }

    private static void route() {
        NailedByWord x = town(12, 0);
        x.promise(1, 803);
        x.promise(1, 510);
        x.mend(0, 2, 13);
        x.mend(1, 2, 14);
        x.promise(10, 999);
        x.mend(2, 2, 13);
        bytes(x, 0, 1, 1, 4, 1, 1, 5, 1);
        due(10, "shelf 6", x.route(6, 0, 0, 0), BAD);
        due(10, "shelf -1", x.route(-1, 0, 0, 0), BAD);
        due(10, "n -1", x.route(0, -1, 0, 0), BAD);
        due(10, "n 31", x.route(0, 31, 0, 0), BAD);
        due(10, "one 2", x.route(0, 0, 2, 0), BAD);
        due(10, "what 4", x.route(0, 0, 0, 4), BAD);
        due(10, "what -1", x.route(0, 0, 0, -1), BAD);
        due(10, "nothing", x.route(1, 0, 0, 0), -11);
        x.row(1, 4, 3);
        due(10, "booleans", x.route(1, 0, 0, 0), -12);
        x.body(0);
        x.keep(1, 0);
        due(10, "a body", x.route(1, 0, 0, 0), -12);
        due(10, "bad ahead", x.route(1, 31, 0, 0), BAD);
        int[] places = {12, 13, 13, 13, 13, 14, 14};
        int[] held = {0, 0, 1, 2, 3, 3, 3};
        int[] weights = {0, 8, 8, 8, 8, 13, 13};
        int[] which = {0, 1, 1, 1, 1, 3, 3};
        for (int n = 0; n < 7; n++) {
            due(10, "place " + n, x.route(0, n, 0, 0), places[n]);
            due(10, "held " + n, x.route(0, n, 0, 1), held[n]);
            due(10, "weight " + n, x.route(0, n, 0, 2), weights[n]);
            due(10, "which " + n, x.route(0, n, 0, 3), which[n]);
        }
        due(10, "he did not go in deed", x.of(0, 0), 12);
        due(10, "nor did days pass", x.of(0, 9), 0);
        bytes(x, 2, 0, 3, 0, 3);
        due(10, "over the edge", x.route(2, 30, 1, 0), 0);
        bytes(x, 2, -1, 1);
        due(10, "ends at once", x.route(2, 30, 1, 0), 0);
        x.row(3, 0, 60);
        for (int i = 0; i < 60; i++) {
            x.put(3, i, i < 30 ? 4 : 1);
        }
        due(10, "30 at most", x.route(3, 30, 1, 0), 0);
        x.mend(0, 9, 98);
        x.mend(1, 4, 99);
        x.mend(1, 5, 99);
        due(10, "99 stays", x.route(0, 6, 0, 3), 2);
    }

    private static void held() {
        NailedByWord x = town(12, 0);
        due(11, "one 2", x.held(2, 0), BAD);
        due(11, "one -1", x.held(-1, 0), BAD);
        due(11, "what 2", x.held(0, 2), BAD);
        due(11, "what -1", x.held(0, -1), BAD);
        due(11, "by none", x.held(0, 0), 0);
        due(11, "none is on", x.held(0, 1), 0);
        x.promise(1, 499);
        due(11, "on, not held", x.held(0, 0), 0);
        due(11, "on, not held", x.held(0, 1), 2);
        x.promise(1, 699);
        x.promise(1, 999);
        due(11, "two", x.held(0, 0), 2);
        due(11, "hardest", x.held(0, 1), 4);
        x.mend(2, 2, 13);
        due(11, "one elsewhere", x.held(0, 0), 1);
        due(11, "one elsewhere", x.held(0, 1), 3);
        x.mend(1, 4, 1);
        due(11, "not yet on", x.held(0, 0), 0);
        due(11, "not yet on", x.held(0, 1), 2);
        x.mend(0, 9, 1);
        due(11, "on", x.held(0, 0), 1);
        x.mend(1, 7, 1);
        due(11, "gone", x.held(0, 1), 2);
        x.mend(0, 8, 2);
        due(11, "holds 2", x.held(0, 0), 1);
        due(11, "the other one", x.held(1, 0), 0);
    }

    private static void best() {
        NailedByWord x = town(12, 0);
        due(12, "t 5", x.best(0, 5, -1), BAD);
        due(12, "t -1", x.best(0, -1, -1), BAD);
        due(12, "k -2", x.best(0, 4, -2), BAD);
        due(12, "k 4", x.best(0, 4, 4), BAD);
        due(12, "k 0 of 0", x.best(0, 0, 0), BAD);
        due(12, "one 2", x.best(2, 0, -1), BAD);
        x.promise(1, 299);
        x.promise(1, 399);
        x.promise(1, 499);
        x.mend(0, 2, 17);
        x.mend(1, 2, 18);
        x.mend(2, 2, 11);
        due(12, "no day", x.best(0, 0, -1), 0);
        due(12, "a day", x.best(0, 1, -1), 4);
        due(12, "left", x.best(0, 1, 0), 3);
        due(12, "two days", x.best(0, 2, -1), 5);
        due(12, "down", x.best(0, 2, 0), 2);
        due(12, "right", x.best(0, 2, 1), 1);
        due(12, "three days", x.best(0, 3, -1), 6);
        int[] three = {2, 0, 3};
        for (int k = 0; k < 3; k++) {
            due(12, "of three, the least first: " + k, x.best(0, 3, k), three[k]);
        }
        due(12, "four days", x.best(0, 4, -1), 9);
        int[] four = {3, 1, 2, 1};
        for (int k = 0; k < 4; k++) {
            due(12, "of four: " + k, x.best(0, 4, k), four[k]);
        }
        x.mend(2, 3, 9);
        due(12, "held at 11", x.best(0, 4, -1), 11);
        int[] last = {2, 0, 3, 0};
        for (int k = 0; k < 4; k++) {
            due(12, "so it comes last: " + k, x.best(0, 4, k), last[k]);
        }
    }

    private static void soonest() {
        NailedByWord x = town(12, 0);
        due(13, "one 2", x.soonest(2, 0), BAD);
        due(13, "place -1", x.soonest(0, -1), BAD);
        due(13, "place 25", x.soonest(0, 25), BAD);
        due(13, "there", x.soonest(0, 12), 0);
        due(13, "far", x.soonest(0, 24), 4);
        x.promise(1, 916);
        due(13, "held up to day 16", x.soonest(0, 13), 18);
        due(13, "19", x.soonest(0, 16), 19);
        due(13, "just 20", x.soonest(0, 15), 20);
        due(13, "just 20", x.soonest(0, 1), 20);
        due(13, "21", x.soonest(0, 0), NOT);
        x.mend(0, 5, 99);
        due(13, "never", x.soonest(0, 13), NOT);
        due(13, "the other one's", x.soonest(1, 12), 4);
        x.mend(0, 0, 10);
        due(13, "round it", x.soonest(0, 13), 5);
        x.mend(0, 9, 99);
        x.mend(0, 5, 98);
        due(13, "over", x.soonest(0, 13), 3);
    }

    private static void free() {
        NailedByWord x = town(12, 0);
        due(14, "one 2", x.free(2), BAD);
        due(14, "all", x.free(0), 25);
        x.promise(1, 999);
        x.promise(1, 999);
        x.promise(1, 999);
        due(14, "all but one", x.free(0), 24);
        x.mend(1, 2, 24);
        x.mend(2, 2, 0);
        due(14, "all but three", x.free(0), 22);
        x.mend(2, 4, 1);
        due(14, "one not yet on", x.free(0), 23);
        due(14, "the other one", x.free(1), 25);
    }

    private static void words() {
        NailedByWord x = town(12, 0, 5);
        due(15, "one 3", x.words(3, 0), BAD);
        due(15, "what 2", x.words(0, 2), BAD);
        due(15, "not held", x.words(0, 0), 0);
        x.promise(1, 999);
        x.promise(2, 499);
        x.promise(2, 999);
        due(15, "two hold", x.words(0, 0), 2);
        due(15, "which", x.words(0, 1), 5);
        tell(x, "o*2");
        due(15, "one is enough", x.words(0, 0), 1);
        due(15, "the least", x.words(0, 1), 1);
        tell(x, "9-o*4");
        due(15, "less is harder", x.words(0, 0), 0);
        x.mend(2, 7, 1);
        due(15, "both", x.words(0, 0), 2);
        due(15, "both", x.words(0, 1), 3);
        x.mend(2, 7, 0);
        tell(x, "w>5?9-o*3;9-o*4");
        due(15, "held by two of three", x.held(0, 0), 2);
        due(15, "all of them", x.words(0, 1), 7);
    }

    private static void all() {
        NailedByWord x = town(12, 0, 5, 6);
        due(16, "what -1", x.all(-1), BAD);
        due(16, "what 2", x.all(2), BAD);
        due(16, "nobody is held", x.all(0), 0);
        due(16, "who", x.all(1), 0);
        x.promise(3, 999);
        x.promise(13, 999);
        x.promise(20, 999);
        x.promise(31, 299);
        due(16, "two", x.all(0), 2);
        due(16, "0 and 3", x.all(1), 9);
        tell(x, "o*3");
        due(16, "by others", x.all(0), 0);
        x.promise(1, 999);
        due(16, "0 is held by two", x.held(0, 0), 2);
        due(16, "one lets off", x.all(0), 1);
        due(16, "the least", x.all(1), 2);
        due(16, "nobody did in deed", x.of(4, 7), 0);
    }

    private static void ring() {
        NailedByWord x = town(12, 0, 5, 6);
        due(17, "none", x.ring(), NOT);
        x.promise(1, 999);
        x.promise(12, 999);
        x.promise(23, 999);
        due(17, "a chain", x.ring(), NOT);
        x.promise(30, 999);
        due(17, "four", x.ring(), 4);
        x.promise(20, 999);
        due(17, "three", x.ring(), 3);
        x.promise(32, 499);
        due(17, "on, but not held by it", x.ring(), 3);
        x.mend(5, 3, 9);
        due(17, "two", x.ring(), 2);
        x.mend(3, 0, 7);
        due(17, "he is elsewhere", x.ring(), 3);
        NailedByWord y = town(1, 2, 3, 4, 5, 6);
        for (int one = 0; one < 6; one++) {
            due(17, "no ring of six yet", y.ring(), NOT);
            y.promise(10 * one + (one + 1) % 6, 999);
        }
        due(17, "all six", y.ring(), 6);
    }

    private static void breaks() {
        NailedByWord x = town(12, 0);
        due(18, "one 2", x.breaks(2, 0), BAD);
        due(18, "what 2", x.breaks(0, 2), BAD);
        due(18, "not held", x.breaks(0, 0), 0);
        due(18, "not held", x.breaks(0, 1), 0);
        x.promise(1, 799);
        x.promise(1, 699);
        due(18, "both", x.breaks(0, 0), 13);
        due(18, "both", x.breaks(0, 1), 3);
        x.mend(0, 1, 1);
        due(18, "one boot", x.breaks(0, 0), NOT);
        due(18, "one boot", x.breaks(0, 1), NOT);
        tell(x, "o*4");
        due(18, "the lighter one", x.breaks(0, 0), 6);
        due(18, "the lighter one", x.breaks(0, 1), 2);
        x.mend(1, 3, 7);
        due(18, "of like ones the least", x.breaks(0, 1), 1);
        tell(x, "b*4");
        due(18, "boots go", x.breaks(0, 0), 7);
        due(18, "one is enough", x.breaks(0, 1), 1);
        x.mend(0, 1, 3);
        due(18, "nothing is left", x.breaks(0, 1), 3);
        x.promise(1, 1);
        x.promise(1, 1);
        due(18, "three of four, the lightest", x.breaks(0, 0), 7);
        due(18, "three of four, the lightest", x.breaks(0, 1), 13);
        x.mend(0, 1, 0);
        due(18, "no boots, not held", x.breaks(0, 0), 0);
        due(18, "nothing was broken", x.of(0, 7), 0);
    }

    private static void judge() {
        NailedByWord x = town(12, 0);
        x.promise(1, 902);
        x.mend(0, 2, 13);
        bytes(x, 0, 1, 1, 1, 1, 2);
        bytes(x, 1, 12, 13, 99, 13, 14, 19);
        due(19, "ss -1", x.judge(-1, 0), BAD);
        due(19, "ss 6", x.judge(6, 0), BAD);
        due(19, "ss 60", x.judge(60, 0), BAD);
        due(19, "ss 16", x.judge(16, 0), BAD);
        due(19, "one 2", x.judge(1, 2), BAD);
        due(19, "bad ahead", x.judge(23, 2), BAD);
        due(19, "no route", x.judge(21, 0), -11);
        due(19, "nothing seen", x.judge(2, 0), -11);
        x.row(3, 2, 3);
        due(19, "route of ints", x.judge(31, 0), -12);
        due(19, "seen of ints", x.judge(3, 0), -12);
        due(19, "the route first", x.judge(32, 0), -12);
        due(19, "the route first", x.judge(23, 0), -11);
        due(19, "all so", x.judge(1, 0), NOT);
        bytes(x, 1, 12, 13, 13, 14);
        due(19, "held there", x.judge(1, 0), 3);
        bytes(x, 1, 11);
        due(19, "the first", x.judge(1, 0), 0);
        bytes(x, 1, 99, 99, 25);
        due(19, "no place", x.judge(1, 0), 2);
        bytes(x, 1, 99, -1);
        due(19, "no place", x.judge(1, 0), 1);
        bytes(x, 1, 99, 99, 99, 99, 99, 99, 99);
        due(19, "more than steps and one", x.judge(1, 0), 6);
        bytes(x, 1);
        due(19, "none", x.judge(1, 0), NOT);
        x.row(4, 0, 60);
        x.row(5, 0, 60);
        for (int i = 0; i < 60; i++) {
            x.put(4, i, 4);
            x.put(5, i, i < 31 ? 12 : 13);
        }
        due(19, "31 at most count", x.judge(45, 0), NOT);
        x.put(5, 30, 13);
        due(19, "the 31st", x.judge(45, 0), 30);
    }

    private static void can() {
        NailedByWord x = town(12, 0);
        x.promise(1, 902);
        x.mend(0, 2, 13);
        due(20, "shelf 6", x.can(6, 0), BAD);
        due(20, "one 2", x.can(0, 2), BAD);
        due(20, "nothing", x.can(0, 0), -11);
        x.row(0, 3, 0);
        due(20, "longs", x.can(0, 0), -12);
        due(20, "bad ahead", x.can(0, -1), BAD);
        bytes(x, 0);
        due(20, "none seen", x.can(0, 0), 1);
        bytes(x, 0, 12, 99, 18);
        due(20, "by 17", x.can(0, 0), 1);
        bytes(x, 0, 12, 13, 18);
        due(20, "held at 13", x.can(0, 0), 0);
        bytes(x, 0, 12, 13, 13, 18);
        due(20, "stays held on day 2", x.can(0, 0), 0);
        bytes(x, 0, 12, 13, 13, 13, 18);
        due(20, "free on day 3", x.can(0, 0), 1);
        bytes(x, 0, 12, 99, 99, 4);
        due(20, "too far", x.can(0, 0), 0);
        bytes(x, 0, 99, 99, 99, 99, 4);
        due(20, "just so far", x.can(0, 0), 1);
        bytes(x, 0, 11);
        due(20, "not where he stands", x.can(0, 0), 0);
        bytes(x, 0, 12, 98);
        due(20, "no place", x.can(0, 0), 0);
        bytes(x, 0, 14, 15);
        x.mend(0, 0, 14);
        due(20, "not over the edge", x.can(0, 0), 0);
        bytes(x, 0, 15, 14);
        x.mend(0, 0, 15);
        due(20, "not over the edge", x.can(0, 0), 0);
        x.row(1, 0, 33);
        for (int i = 0; i < 33; i++) {
            x.put(1, i, i < 31 ? 99 : 100);
        }
        due(20, "31 at most count", x.can(1, 0), 1);
        x.put(1, 30, 100);
        due(20, "the 31st", x.can(1, 0), 0);
    }

    private static void who() {
        NailedByWord x = town(12, 0, 12, 11);
        x.promise(1, 999);
        due(21, "shelf -1", x.who(-1), BAD);
        due(21, "nothing", x.who(0), -11);
        x.row(0, 1, 2);
        due(21, "shorts", x.who(0), -12);
        bytes(x, 0, 99, 99);
        due(21, "all", x.who(0), 15);
        bytes(x, 0, 12);
        due(21, "two", x.who(0), 5);
        bytes(x, 0, 99, 12);
        due(21, "three", x.who(0), 13);
        bytes(x, 0, 99, 7);
        due(21, "not he who is held", x.who(0), 4);
        bytes(x, 0, 99, 77);
        due(21, "nobody", x.who(0), 0);
    }

    private static void feeds() {
        NailedByWord x = town(4, 20, 24, 12, 4);
        due(22, "place -1", x.feeds(-1, -1), BAD);
        due(22, "place 25", x.feeds(25, -1), BAD);
        due(22, "k -2", x.feeds(0, -2), BAD);
        due(22, "nobody", x.feeds(3, -1), 0);
        due(22, "nobody", x.feeds(3, 0), NOT);
        x.promise(1, 999);
        x.promise(12, 999);
        x.promise(20, 999);
        x.promise(31, 999);
        x.promise(41, 999);
        due(22, "round", x.feeds(0, -1), 20);
        int[] order = {4, 12, 24, 20};
        for (int k = 0; k < 4; k++) {
            due(22, "stop " + k, x.feeds(0, k), order[k]);
        }
        due(22, "no fifth, each place once", x.feeds(0, 4), NOT);
        due(22, "far beyond", x.feeds(0, MOST), NOT);
        x.mend(3, 0, 13);
        due(22, "he is not held", x.feeds(0, -1), 16);
        due(22, "of like ones the first", x.feeds(0, 0), 4);
        due(22, "of like ones the first", x.feeds(0, 2), 20);
        due(22, "from one of them", x.feeds(24, 0), 4);
        due(22, "from one of them", x.feeds(24, -1), 16);
    }

    private static void odds() {
        NailedByWord x = town(12, 0);
        due(23, "one 2", x.odds(2, 0), Long.MIN_VALUE);
        due(23, "one -1", x.odds(-1, 0), Long.MIN_VALUE);
        due(23, "part 2", x.odds(0, 2), Long.MIN_VALUE);
        due(23, "part -1", x.odds(0, -1), Long.MIN_VALUE);
        due(23, "none on", x.odds(0, 0), 1);
        due(23, "none on", x.odds(0, 1), 1);
        x.promise(1, 999);
        x.forget(0);
        due(23, "half, forgotten or not", x.odds(0, 1), 2);
        x.promise(1, 499);
        due(23, "one that never holds", x.odds(0, 0), 1);
        due(23, "one that never holds", x.odds(0, 1), 2);
        for (int i = 0; i < 9; i++) {
            x.promise(1, 899);
        }
        due(23, "ten halves", x.odds(0, 0), 1);
        due(23, "ten halves", x.odds(0, 1), 1024);
        x.promise(1, 799);
        due(23, "twelve", x.odds(0, 1), 2048);
        x.mend(11, 2, 13);
        due(23, "one elsewhere", x.odds(0, 1), 1024);
        tell(x, "5");
        due(23, "never", x.odds(0, 0), 0);
        due(23, "in lowest terms", x.odds(0, 1), 1);
        tell(x, "f*9");
        due(23, "held by what is forgotten", x.odds(0, 1), 2048);
    }

    private static void rued() {
        NailedByWord x = town(12, 0);
        due(24, "one 2", x.rued(2, 0), BAD);
        due(24, "t -1", x.rued(0, -1), BAD);
        due(24, "t 9", x.rued(0, 9), BAD);
        due(24, "none", x.rued(0, 0), 0);
        x.promise(1, 499);
        x.promise(1, 402);
        x.promise(1, 499);
        x.promise(1, 499);
        x.promise(10, 499);
        x.mend(1, 2, 15);
        x.mend(2, 2, 15);
        x.mend(3, 4, 5);
        due(24, "now", x.rued(0, 0), 14);
        due(24, "two steps", x.rued(0, 2), 14);
        due(24, "three steps: 1 is over", x.rued(0, 3), 10);
        due(24, "five steps: 3 is on", x.rued(0, 5), 2);
        due(24, "eight", x.rued(0, 8), 2);
        x.mend(1, 7, 1);
        due(24, "not what is gone", x.rued(0, 8), 0);
        x.mend(0, 3, 9);
        due(24, "held", x.rued(0, 8), 4);
        due(24, "the other one's", x.rued(1, 0), 0);
    }

    private static void byTurns() {
        NailedByWord x = town(12, 0);
        due(25, "unlike", x.byTurns(0, 0, 1, 0), BAD);
        due(25, "man 2", x.byTurns(20, 0, 1, 0), BAD);
        due(25, "child 2", x.byTurns(2, 0, 1, 0), BAD);
        due(25, "-1", x.byTurns(-1, 0, 1, 0), BAD);
        due(25, "place -1", x.byTurns(1, -1, 1, 0), BAD);
        due(25, "place 25", x.byTurns(1, 25, 1, 0), BAD);
        due(25, "n 0", x.byTurns(1, 0, 0, 0), BAD);
        due(25, "n 6", x.byTurns(1, 0, 6, 0), BAD);
        due(25, "what 2", x.byTurns(1, 0, 1, 2), BAD);
        due(25, "one step", x.byTurns(1, 0, 1, 0), 3);
        due(25, "up", x.byTurns(1, 0, 1, 1), 0);
        due(25, "the child's comes behind", x.byTurns(1, 0, 2, 0), 3);
        due(25, "two steps", x.byTurns(1, 0, 3, 0), 2);
        due(25, "three steps", x.byTurns(1, 0, 5, 0), 1);
        due(25, "right", x.byTurns(1, 14, 1, 1), 1);
        due(25, "there", x.byTurns(1, 12, 1, 0), 0);
        due(25, "stays", x.byTurns(1, 12, 1, 1), 4);
        due(25, "to stay is as good", x.byTurns(1, 12, 3, 1), 4);
        due(25, "to wait is as good", x.byTurns(1, 7, 3, 1), 4);
    }

    private static void byTurnsWithForgetting() {
        NailedByWord x = town(12, 0, 1);
        x.promise(1, 999);
        due(25, "held, and the child forgets nothing", x.byTurns(1, 13, 5, 0), 1);
        due(25, "held", x.byTurns(1, 13, 5, 1), 4);
        x.mend(0, 5, 0);
        due(25, "days go on", x.byTurns(1, 13, 3, 0), 0);
        due(25, "held today", x.byTurns(1, 13, 1, 0), 1);
        x.mend(0, 5, 99);
        tell(x, "f*9");
        due(25, "he is away before the child forgets", x.byTurns(1, 14, 3, 0), 0);
        due(25, "so he goes at once", x.byTurns(1, 14, 3, 1), 1);
        due(25, "another child forgets nothing", x.byTurns(2, 14, 3, 0), 0);
        x.mend(0, 2, 13);
        due(25, "he must come by", x.byTurns(1, 14, 3, 0), 1);
        x.promise(21, 100);
        due(25, "the least of those to it", x.byTurns(1, 14, 3, 0), 1);
        x.mend(0, 6, 1);
        due(25, "the man would be held there", x.byTurns(1, 14, 3, 0), 1);
        x.mend(0, 6, 0);
        x.mend(0, 7, 1);
        due(25, "gone", x.byTurns(1, 14, 3, 0), 0);
        due(25, "nothing was done", x.of(1, 6), 0);
        NailedByWord y = town(12, 0, 1);
        tell(y, "f*9");
        y.promise(21, 100);
        y.promise(1, 999);
        y.mend(1, 2, 13);
        due(25, "the least is another's and goes first", y.byTurns(1, 14, 3, 0), 0);
        y.mend(0, 6, 1);
        due(25, "then his", y.byTurns(1, 14, 3, 0), 1);
        y.mend(1, 5, 1);
        due(25, "held on day 1", y.byTurns(1, 14, 3, 0), 1);
        due(25, "held on day 1, the child's behind it", y.byTurns(1, 14, 4, 0), 1);
        due(25, "free on day 2", y.byTurns(1, 14, 5, 0), 0);
        y.mend(1, 4, 1);
        due(25, "on from day 1", y.byTurns(1, 14, 3, 0), 1);
        y.mend(1, 5, 0);
        due(25, "over on day 1", y.byTurns(1, 14, 3, 0), 0);
        NailedByWord z = town(11, 0, 1);
        tell(z, "f*9");
        z.promise(21, 199);
        z.promise(1, 999);
        z.mend(1, 2, 13);
        due(25, "the child forgets twice", z.byTurns(1, 14, 5, 0), 1);
        z.promise(21, 199);
        z.mend(2, 2, 13);
        z.mend(1, 2, 9);
        due(25, "only what is the man's holds him", z.byTurns(1, 14, 5, 0), 0);
    }

    private static void drawn() {
        NailedByWord x = town(12, 0);
        due(26, "nm 100", x.drawn(1, 100, 0, -1), BAD);
        due(26, "nm 141", x.drawn(1, 141, 0, -1), BAD);
        due(26, "nm 3101", x.drawn(1, 3101, 0, -1), BAD);
        due(26, "nm 40", x.drawn(1, 40, 0, -1), BAD);
        due(26, "nm -101", x.drawn(1, -101, 0, -1), BAD);
        due(26, "one 2", x.drawn(1, 101, 2, -1), BAD);
        due(26, "place -2", x.drawn(1, 101, 0, -2), BAD);
        due(26, "place 25", x.drawn(1, 101, 0, 25), BAD);
        int[] ends = new int[25];
        int z = -77;
        for (int year = 0; year < 30; year++) {
            int px = 2;
            int py = 2;
            for (int day = 0; day < 40; day++) {
                z = z * 1103515245 + 12345;
                int way = (z >>> 8) % 5;
                px = Math.max(0, Math.min(4, px + (way == 1 ? 1 : way == 3 ? -1 : 0)));
                py = Math.max(0, Math.min(4, py + (way == 2 ? 1 : way == 0 ? -1 : 0)));
            }
            ends[5 * py + px]++;
        }
        for (int place = 0; place < 25; place++) {
            due(26, "at " + place, x.drawn(-77, 3040, 0, place), ends[place]);
        }
        due(26, "never held", x.drawn(-77, 3040, 0, -1), 0);
        x.promise(1, 904);
        due(26, "five days of each year", x.drawn(5, 3005, 0, -1), 150);
        due(26, "there each year", x.drawn(5, 3005, 0, 12), 30);
        due(26, "not longer", x.drawn(5, 1005, 0, 12), 10);
        x.mend(0, 9, 3);
        x.mend(0, 5, 99);
        due(26, "always", x.drawn(LEAST, 3040, 0, -1), 1200);
        due(26, "in thought", x.of(0, 9), 3);
    }

    private static void step() {
        NailedByWord x = town(12, 0, 24);
        due(27, "one 3", x.step(3, 0), BAD);
        due(27, "one -1", x.step(-1, 0), BAD);
        due(27, "way -1", x.step(0, -1), BAD);
        due(27, "way 5", x.step(0, 5), BAD);
        due(27, "up", x.step(0, 0), 7);
        due(27, "right", x.step(0, 1), 8);
        due(27, "down", x.step(0, 2), 13);
        due(27, "left", x.step(0, 3), 12);
        due(27, "none", x.step(0, 4), 12);
        due(27, "over the upper edge", x.step(1, 0), 0);
        due(27, "over the left edge", x.step(1, 3), 0);
        due(27, "over the right edge", x.step(2, 1), 24);
        due(27, "over the lower edge", x.step(2, 2), 24);
        due(27, "all are steps", x.led(1), 9);
        due(27, "none in vain", x.led(2), 0);
        x.promise(1, 999);
        due(27, "held", x.step(0, 0), 12);
        due(27, "held, none", x.step(0, 4), 12);
        due(27, "in vain", x.led(2), 2);
        due(27, "no steps", x.led(1), 9);
        due(27, "where he is", x.of(0, 0), 12);
        due(27, "the day is as it was", x.of(0, 9), 0);
    }

    private static void pull() {
        NailedByWord x = town(12, 0);
        x.promise(1, 999);
        x.promise(1, 499);
        x.promise(1, 999);
        x.promise(1, 999);
        due(28, "-1", x.pull(-1), BAD);
        due(28, "4", x.pull(4), BAD);
        due(28, "it does not hold", x.pull(1), STATE);
        due(28, "two left", x.pull(0), 2);
        due(28, "gone", x.of(0, 7), 1);
        due(28, "once", x.pull(0), STATE);
        x.mend(0, 0, 13);
        due(28, "elsewhere", x.pull(2), STATE);
        x.mend(0, 0, 12);
        x.mend(0, 1, 1);
        due(28, "none left", x.pull(2), 0);
        due(28, "no boots", x.pull(3), STATE);
        due(28, "it is not gone", x.of(3, 7), 0);
        due(28, "led", x.led(3), 2);
        due(28, "not let off", x.led(4), 0);
        due(28, "boots of the other one", x.of(1, 1), 3);
    }

    private static void letOff() {
        NailedByWord x = town(12, 0);
        x.promise(1, 100);
        x.mend(0, 9, 50);
        due(29, "-1", x.letOff(-1), BAD);
        due(29, "1", x.letOff(1), BAD);
        due(29, "not on", x.letOff(0), 1);
        due(29, "gone", x.of(0, 7), 1);
        due(29, "once", x.letOff(0), STATE);
        due(29, "led", x.led(4), 1);
        due(29, "boots", x.of(0, 1), 3);
    }

    private static void forget() {
        NailedByWord x = town(12, 0);
        x.promise(1, 999);
        due(30, "-1", x.forget(-1), BAD);
        due(30, "1", x.forget(1), BAD);
        x.letOff(0);
        due(30, "gone or not", x.forget(0), 1);
        due(30, "forgot", x.of(0, 6), 1);
        due(30, "once", x.forget(0), STATE);
        due(30, "let off once", x.led(4), 1);
    }

    private static void day() {
        NailedByWord x = new NailedByWord();
        due(31, "1", x.day(), 1);
        due(31, "2", x.day(), 2);
        x.mend(0, 9, 98);
        due(31, "99", x.day(), 99);
        due(31, "99 stays", x.day(), 99);
        due(31, "days", x.led(5), 4);
    }

    private static void led() {
        NailedByWord x = town(12, 0);
        due(32, "-1", x.led(-1), BAD);
        due(32, "6", x.led(6), BAD);
        x.promise(1, 999);
        x.step(0, 1);
        x.step(1, 4);
        x.step(1, 1);
        x.pull(0);
        x.promise(1, 999);
        x.letOff(1);
        x.day();
        int[] all = {2, 2, 1, 1, 1, 1};
        for (int what = 0; what < 6; what++) {
            due(32, "what " + what, x.led(what), all[what]);
        }
        x.mend(0, 9, 7);
        due(32, "mending is none", x.led(5), 1);
        x.mend(1, 7, 0);
        x.mend(1, 7, 1);
        due(32, "mending is none", x.led(4), 1);
    }

    private static void image() {
        NailedByWord x = town(12);
        due(33, "days", x.image(), 0);
        x.mend(0, 9, 40);
        due(33, "days, not the day", x.image(), 0);
        x.day();
        due(33, "days", x.image(), 1);
        x.day();
        x.mend(0, 0, 3);
        due(33, "days", x.image(), 2);
        x.mend(0, 0, 4);
        x.back();
        due(33, "the latest", x.of(0, 0), 3);
    }

    private static void back() {
        NailedByWord x = town(12, 0);
        due(34, "none", x.back(), STATE);
        x.promise(1, 999);
        x.promise(1, 999);
        x.forget(1);
        x.day();
        x.image();
        x.pull(0);
        x.letOff(1);
        x.forget(0);
        x.mend(1, 6, 0);
        x.step(1, 1);
        x.day();
        x.mend(0, 3, 1);
        x.mend(0, 8, 7);
        x.person(24);
        x.promise(20, 599);
        x.letOff(2);
        x.forget(2);
        x.step(2, 0);
        x.mend(2, 1, 9);
        due(34, "days", x.back(), 1);
        int[][] numbers = {{0, 0, 12}, {1, 0, 0}, {0, 1, 3}, {0, 6, 0}, {1, 6, 1}, {0, 7, 0}, {1, 7, 0}, {0, 9, 1},
            {0, 3, 1}, {0, 8, 7}, {2, 0, 19}, {2, 1, 9}, {2, 6, 1}, {2, 7, 1}, {2, 4, 2}};
        for (int[] n : numbers) {
            due(34, "number " + n[0] + " what " + n[1], x.of(n[0], n[1]), n[2]);
        }
        int[] ledThen = {2, 0, 0, 0, 0, 1};
        for (int what = 0; what < 6; what++) {
            due(34, "led " + what, x.led(what), ledThen[what]);
        }
        due(34, "people", x.count(0), 3);
        due(34, "promises", x.count(1), 3);
        due(34, "changes", x.count(3), 4);
        x.day();
        due(34, "as often as wanted", x.back(), 1);
        due(34, "the day", x.of(0, 9), 1);
    }

    private static void undo() {
        NailedByWord x = town(12, 0);
        x.promise(1, 599);
        due(35, "none", x.undo(), STATE);
        int[][] mends = {{0, 0, 3}, {0, 1, 4}, {0, 2, 5}, {0, 3, 6}, {0, 4, 7}, {0, 5, 8}, {0, 6, 1}, {0, 7, 1}, {0, 8, 2}, {0, 9, 9}};
        int[] was = {12, 3, 12, 5, 0, 99, 0, 0, 3, 0};
        for (int[] m : mends) {
            x.mend(m[0], m[1], m[2]);
        }
        due(35, "changes", x.count(3), 10);
        for (int what = 9; what >= 0; what--) {
            due(35, "what " + what, x.undo(), what);
            due(35, "what " + what, x.of(0, what), was[what]);
        }
        due(35, "none", x.undo(), STATE);
        for (int i = 1; i <= 45; i++) {
            x.mend(0, 9, i);
        }
        due(35, "40 are kept", x.count(3), 40);
        for (int i = 39; i >= 0; i--) {
            due(35, "one less", x.undo(), i);
        }
        due(35, "the oldest five stay", x.of(0, 9), 5);
        due(35, "none", x.undo(), STATE);
        changesOfUnlikeSorts();
        x.mend(0, 0, 13);
        x.step(0, 1);
        x.day();
        due(35, "deeds are none", x.undo(), 0);
        due(35, "what it was", x.of(0, 0), 12);
        due(35, "the day of a deed", x.of(0, 9), 6);
    }

    /** 43 changes of places and boots of two people, of which three are lost; then all ways back and on. */
    private static void changesOfUnlikeSorts() {
        NailedByWord x = town(0, 0);
        for (int i = 0; i < 43; i++) {
            x.mend(i % 2, i / 2 % 2, i % 4 < 2 ? 1 + i / 4 : 9 - i / 4 % 9);
        }
        int[] last = {x.of(0, 0), x.of(1, 0), x.of(0, 1), x.of(1, 1)};
        int changes = x.count(3);
        for (int i = changes - 1; i >= 0; i--) {
            due(35, "unlike sorts", x.undo(), i);
        }
        int[] first = {1, 1, 9, 3};
        for (int i = 0; i < 4; i++) {
            due(35, "three are lost", x.of(i % 2, i / 2), first[i]);
        }
        for (int i = changes - 1; i >= 0; i--) {
            due(36, "unlike sorts", x.redo(), i);
        }
        for (int i = 0; i < 4; i++) {
            due(36, "as they were at last", x.of(i % 2, i / 2), last[i]);
        }
    }

    private static void redo() {
        NailedByWord x = town(12, 0);
        due(36, "none", x.redo(), STATE);
        x.mend(0, 0, 1);
        x.mend(0, 0, 2);
        x.mend(0, 0, 3);
        due(36, "none", x.redo(), STATE);
        x.undo();
        x.undo();
        due(36, "one more", x.redo(), 1);
        due(36, "again", x.of(0, 0), 2);
        due(36, "may be undone", x.count(3), 2);
        x.step(0, 1);
        x.mend(0, 1, 3);
        due(36, "deeds and the same number are none", x.redo(), 0);
        due(36, "again", x.of(0, 0), 3);
        x.undo();
        due(36, "undone again", x.of(0, 0), 2);
        x.mend(0, 1, 4);
        due(36, "another came behind", x.redo(), STATE);
        due(36, "as it is", x.of(0, 0), 2);
        due(36, "may be undone", x.count(3), 3);
        x.undo();
        x.mend(0, 1, 99);
        due(36, "a bad one is none", x.redo(), 0);
        due(36, "again", x.of(0, 1), 4);
    }

    private static void body() {
        NailedByWord x = new NailedByWord();
        due(37, "-1", x.body(-1), BAD);
        due(37, "8", x.body(8), BAD);
        for (int i = 0; i < 50; i++) {
            due(37, "one more", x.body(i % 8), i);
        }
        due(37, "full", x.body(0), FULL);
        due(37, "bad ahead of full", x.body(8), BAD);
        due(37, "how many", x.count(4), 50);
        due(37, "the last", x.act(49, 0, 0), 52);
    }

    /** By hand, with x 5 and n 10 + kind. */
    private static void act() {
        NailedByWord x = new NailedByWord();
        for (int i = 0; i < 10; i++) {
            x.body(0);
        }
        for (int kind = 0; kind < 8; kind++) {
            x.body(kind);
        }
        int[][] answers = {
            {15, 30, 15, 19},
            {19, 38, 14, 28},
            {17, -34, 9, -47},
            {18, -38, 24, -74},
            {22, 44, 11, 44 - 15 ^ 5},
            {20, -42, 10 * 3 - 17, -42 - (14 * 3 - 17) + 1},
            {42, 84, 21, 84 - 17},
            {43, 86 + 19, 20, 86 + 19 - 16},
        };
        for (int kind = 0; kind < 8; kind++) {
            for (int act = 0; act < 4; act++) {
                due(38, "kind " + kind + " act " + act, x.act(10 + kind, act, 5), answers[kind][act]);
            }
        }
        due(38, "it wraps", x.act(10, 1, MOST), (MOST + 10) * 2);
        due(38, "no such body", x.act(18, 0, 1), 0);
        due(38, "and no trace", x.trace(0), BAD);
        x.act(10, 0, 1);
        due(38, "act 4", x.act(10, 4, 1), 0);
        due(38, "and no trace", x.count(5), 0);
        due(38, "act -1", x.act(10, -1, 1), 0);
        due(38, "body -1", x.act(-1, 0, 1), 0);
    }

    private static void trace() {
        NailedByWord x = new NailedByWord();
        int[][][] traces = {
            {{1}, {10, 1}, {11}, {2, 10, 1, 11}},
            {{20, 1}, {10, 20, 1}, {11}, {2, 10, 20, 1, 11}},
            {{1}, {30, 10, 1}, {11}, {2, 30, 10, 1, 11}},
            {{1}, {41, 30, 10, 1}, {40, 11}, {2, 41, 30, 10, 1, 40, 11}},
            {{20, 1}, {10, 20, 1}, {11}, {50, 2, 10, 20, 1, 11}},
            {{1}, {41, 30, 10, 1}, {60, 40, 11, 1}, {61, 2, 41, 30, 10, 1, 60, 40, 11, 1}},
            {{70, 1}, {10, 70, 1}, {11}, {2, 10, 70, 1, 11}},
            {{81, 70, 1}, {80, 10, 81, 70, 1, 11}, {11}, {2, 80, 10, 81, 70, 1, 11, 11}},
        };
        due(39, "none yet", x.trace(0), BAD);
        for (int kind = 0; kind < 8; kind++) {
            x.body(kind);
            for (int act = 0; act < 4; act++) {
                x.act(kind, act, 3);
                int[] due = traces[kind][act];
                due(39, "how many, kind " + kind + " act " + act, x.count(5), due.length);
                for (int i = 0; i < due.length; i++) {
                    due(39, "kind " + kind + " act " + act + " body " + i, x.trace(i), due[i]);
                }
                due(39, "-1", x.trace(-1), BAD);
                due(39, "behind", x.trace(due.length), BAD);
            }
        }
        due(39, "30", x.trace(30), BAD);
    }

    private static void keep() {
        NailedByWord x = new NailedByWord();
        due(40, "no body", x.keep(0, 0), BAD);
        x.body(3);
        due(40, "shelf -1", x.keep(-1, 0), BAD);
        due(40, "shelf 6", x.keep(6, 0), BAD);
        due(40, "body -2", x.keep(0, -2), BAD);
        due(40, "body 1", x.keep(0, 1), BAD);
        due(40, "kept", x.keep(5, 0), 1);
        due(40, "there", x.taken(5, 0), 3);
        due(40, "nothing", x.keep(5, -1), 1);
        due(40, "gone", x.taken(5, 0), -11);
        x.row(5, 0, 3);
        due(40, "in place of a row", x.keep(5, 0), 1);
        due(40, "no row", x.put(5, 0, 1), -12);
        x.row(5, 0, 3);
        due(40, "nothing in place of a row", x.keep(5, -1), 1);
        due(40, "no row", x.put(5, 0, 1), -11);
    }

    private static void row() {
        NailedByWord x = new NailedByWord();
        due(41, "shelf -1", x.row(-1, 0, 1), BAD);
        due(41, "shelf 6", x.row(6, 0, 1), BAD);
        due(41, "sort -1", x.row(0, -1, 1), BAD);
        due(41, "sort 5", x.row(0, 5, 1), BAD);
        due(41, "n 61", x.row(0, 0, 61), BAD);
        due(41, "n -1", x.row(0, 0, -1), -14);
        due(41, "bad ahead of -14", x.row(0, 5, -1), BAD);
        due(41, "bad ahead of -14", x.row(6, 0, LEAST), BAD);
        due(41, "still nothing", x.put(0, 0, 1), -11);
        for (int sort = 0; sort < 5; sort++) {
            due(41, "sort " + sort, x.row(sort, sort, 60), 1);
            due(41, "at first", x.element(sort, 59), 0);
            due(41, "the end", x.element(sort, 60), Long.MIN_VALUE);
        }
        x.put(3, 0, 9);
        due(41, "a new one", x.row(3, 3, 1), 1);
        due(41, "at first", x.element(3, 0), 0);
        due(41, "an empty one", x.row(3, 3, 0), 1);
        due(41, "no place", x.put(3, 0, 1), -13);
        due(41, "-14 changes nothing", x.row(4, 0, -1), -14);
        due(41, "as it was", x.put(4, 59, 1), 1);
    }

    private static void put() {
        NailedByWord x = new NailedByWord();
        due(42, "shelf -1", x.put(-1, 0, 0), BAD);
        due(42, "shelf 6", x.put(6, 0, 0), BAD);
        due(42, "nothing", x.put(0, -1, 0), -11);
        x.body(0);
        x.keep(0, 0);
        due(42, "a body", x.put(0, -1, 0), -12);
        x.row(0, 0, 2);
        due(42, "place -1", x.put(0, -1, 0), -13);
        due(42, "place 2", x.put(0, 2, 0), -13);
        due(42, "place most", x.put(0, MOST, 0), -13);
        long[] values = {200, 40000, 3000000000L, Long.MIN_VALUE + 1, 256};
        long[] kept = {-56, -25536, -1294967296L, Long.MIN_VALUE + 1, 1};
        for (int sort = 0; sort < 5; sort++) {
            x.row(1, sort, 2);
            due(42, "put", x.put(1, 1, values[sort]), 1);
            due(42, "its lowest bits", x.element(1, 1), kept[sort]);
            due(42, "the other one", x.element(1, 0), 0);
            due(42, "put", x.put(1, 1, -1), 1);
            due(42, "-1", x.element(1, 1), sort == 4 ? 1 : -1);
        }
        x.put(1, 1, 0);
        due(42, "false", x.element(1, 1), 0);
    }

    private static void element() {
        NailedByWord x = new NailedByWord();
        long bad = Long.MIN_VALUE;
        due(43, "shelf -1", x.element(-1, 0), bad);
        due(43, "shelf 6", x.element(6, 0), bad);
        due(43, "nothing", x.element(0, 0), bad);
        x.body(0);
        x.keep(0, 0);
        due(43, "a body", x.element(0, 0), bad);
        x.row(0, 3, 2);
        due(43, "place -1", x.element(0, -1), bad);
        due(43, "place 2", x.element(0, 2), bad);
        x.put(0, 1, Long.MAX_VALUE);
        due(43, "a long", x.element(0, 1), Long.MAX_VALUE);
    }

    private static void shift() {
        NailedByWord x = new NailedByWord();
        bytes(x, 0, 1, 2, 3, 4, 5);
        bytes(x, 1, 0, 0, 0);
        due(44, "shelf 6", x.shift(6, 0, 0, 0, 1), BAD);
        due(44, "other -1", x.shift(0, 0, -1, 0, 1), BAD);
        due(44, "nothing here", x.shift(2, 0, 0, 0, 1), -11);
        due(44, "nothing there", x.shift(0, 0, 2, 0, 1), -11);
        x.body(0);
        x.keep(3, 0);
        due(44, "nothing ahead of a body", x.shift(3, 0, 2, 0, 1), -11);
        due(44, "a body", x.shift(3, 0, 0, 0, 1), -12);
        due(44, "to a body", x.shift(0, 0, 3, 0, 1), -12);
        due(44, "two bodies", x.shift(3, 0, 3, 0, 0), -12);
        x.row(4, 1, 5);
        due(44, "unlike sorts", x.shift(0, 9, 4, 0, 1), -12);
        due(44, "i -1", x.shift(0, -1, 1, 0, 1), -13);
        due(44, "j -1", x.shift(0, 0, 1, -1, 1), -13);
        due(44, "n -1", x.shift(0, 0, 1, 0, -1), -13);
        due(44, "beyond the one", x.shift(0, 4, 1, 0, 2), -13);
        due(44, "beyond the other", x.shift(0, 0, 1, 1, 3), -13);
        due(44, "most", x.shift(0, 1, 1, 0, MOST), -13);
        due(44, "most", x.shift(0, MOST, 1, MOST, MOST), -13);
        due(44, "none at the end", x.shift(0, 5, 1, 3, 0), 0);
        due(44, "none beyond the end", x.shift(0, 6, 1, 0, 0), -13);
        due(44, "nothing came", x.element(1, 0), 0);
        due(44, "three", x.shift(0, 2, 1, 0, 3), 3);
        due(44, "came", x.element(1, 2), 5);
        due(44, "on", x.shift(0, 0, 0, 1, 4), 4);
        due(44, "as before", x.element(0, 4), 4);
        due(44, "as before", x.element(0, 0), 1);
        due(44, "back", x.shift(0, 1, 0, 0, 4), 4);
        due(44, "as before", x.element(0, 0), 1);
        due(44, "as before", x.element(0, 3), 4);
        due(44, "the last", x.element(0, 4), 4);
    }

    private static void taken() {
        NailedByWord x = new NailedByWord();
        due(45, "shelf -1", x.taken(-1, 0), BAD);
        due(45, "shelf 6", x.taken(6, 0), BAD);
        due(45, "kind -1", x.taken(0, -1), BAD);
        due(45, "kind 8", x.taken(0, 8), BAD);
        due(45, "nothing", x.taken(0, 0), -11);
        x.row(0, 0, 1);
        due(45, "a row", x.taken(0, 0), -12);
        int[] under = {0b1, 0b11, 0b101, 0b1101, 0b10011, 0b101101, 0b1000001, 0b11000001};
        for (int kind = 0; kind < 8; kind++) {
            x.keep(1, x.body(kind));
            for (int k = 0; k < 8; k++) {
                due(45, "kind " + kind + " for " + k, x.taken(1, k), (under[kind] >> k & 1) != 0 ? kind : -12);
            }
        }
    }

    private static void count() {
        NailedByWord x = town(1, 2, 3);
        x.promise(1, 1);
        x.promise(1, 1);
        x.feed(1);
        x.mend(0, 9, 1);
        x.mend(0, 9, 2);
        x.undo();
        x.body(2);
        x.act(0, 1, 1);
        int[] all = {3, 2, 1, 1, 1, 3};
        for (int what = 0; what < 6; what++) {
            due(46, "what " + what, x.count(what), all[what]);
        }
        due(46, "-1", x.count(-1), BAD);
        due(46, "6", x.count(6), BAD);
    }
}
