/**
 * A town in which whoever promises something is held by it where he promised it.
 * All memory is made with the object; no call makes any, so that a long run stays small.
 */
public final class NailedByWord {
    public static final int BAD = -1, NOT = -2, FULL = -3, STATE = -5, VOID = -2000000000;

    private static final int MISSING = -11, OTHER_KIND = -12, NO_SUCH_PLACE = -13, SIZE_BELOW_0 = -14;
    private static final int FAULT_AT_0 = -100;

    private static final int SIDE = 5, PLACES = 25, ALL_PLACES = (1 << 25) - 1;
    private static final int LEFT_EDGE = 0x108421, RIGHT_EDGE = 0x1084210;
    private static final int MOST_PEOPLE = 6, MOST_PROMISES = 12;
    private static final int FIRST_BOOTS = 3, FIRST_HOLDS = 3, LAST_DAY = 99;
    private static final int MOST_WEIGHT = 9, HARDEST = 9;
    private static final int WAYS = 5, NO_WAY = 4;
    private static final int MOST_STEPS = 30, MOST_SEEN = 31, NOT_SEEN = 99;
    private static final int MOST_BEST_DAYS = 4, MOST_SOON_DAYS = 20, MOST_RUED_STEPS = 8, MOST_DEEDS = 5;
    private static final int MOST_YEARS = 30, MOST_DAYS_OF_YEAR = 40;

    private static final int PLACE_OF = 0, BOOTS_OF = 1, AT_OF = 2, WEIGHT_OF = 3, FROM_OF = 4, TILL_OF = 5;
    private static final int FORGOT_OF = 6, GONE_OF = 7, HOLDS_OF_ALL = 8, DAY_OF_ALL = 9, BY_OF = 10, TO_OF = 11;
    private static final int MENDED = 10, TOLD = 12;
    private static final int[] LEAST_MENDED = {0, 0, 0, 0, 0, 0, 0, 0, 1, 0};
    private static final int[] MOST_MENDED = {24, 9, 24, 9, 99, 99, 1, 1, 9, 99};

    private static final int MADE = 0, STEPPED = 1, IN_VAIN = 2, PULLED = 3, LET_OFF = 4, DAYS = 5, LED = 6;

    private static final int SHELVES = 6, MOST_ELEMENTS = 60, SORTS = 5;
    private static final int BYTES = 0, SHORTS = 1, INTS = 2, LONGS = 3;
    private static final int FIVE = 5;

    private final Town town = new Town();
    private final Tape tape = new Tape();
    private final Walks walks = new Walks(town);
    private final Release release = new Release(town);
    private final Round round = new Round();
    private final Changes changes = new Changes(town);
    private final Image kept = new Image();
    private final Bodies bodies = new Bodies();
    private final Shelf[] shelves = new Shelf[SHELVES];

    public NailedByWord() {
        for (int i = 0; i < SHELVES; i++) {
            shelves[i] = new Shelf();
        }
    }

    // ---- people, promises

    public int person(int place) {
        if (!isPlace(place)) {
            return BAD;
        }
        return town.addPerson(place);
    }

    public int promise(int bt, int wt) {
        int maker = bt / 10;
        int taker = bt % 10;
        int weight = wt / 100;
        int till = wt % 100;
        if (!town.hasPerson(maker) || !town.mayPromise(maker, taker, town.place[maker], weight, till)) {
            return BAD;
        }
        int number = town.addPromise(maker, taker, town.place[maker], weight, till);
        if (number >= 0) {
            town.led[MADE]++;
        }
        return number;
    }

    public int promises(int shelf, int i, int n) {
        if (!isShelf(shelf) || n < 1 || n > MOST_PROMISES) {
            return BAD;
        }
        int refusal = shelves[shelf].refusalAsBytes();
        if (refusal == MISSING) {
            return 0;
        }
        return refusal != 0 ? refusal : promisesFrom(shelves[shelf], i, n);
    }

    private int promisesFrom(Shelf row, int i, int n) {
        int came = 0;
        while (came < n && row.hasFive(i, came) && promiseFrom(row, i + FIVE * came)) {
            came++;
        }
        return came;
    }

    private boolean promiseFrom(Shelf row, int i) {
        int maker = row.number(i);
        int taker = row.number(i + 1);
        int where = row.number(i + 2);
        int weight = row.number(i + 3);
        int till = row.number(i + 4);
        return town.mayPromise(maker, taker, where, weight, till)
            && town.addPromise(maker, taker, where, weight, till) >= 0;
    }

    public int mend(int number, int what, int v) {
        if (what < 0 || what >= MENDED || !town.hasNumber(number, what)
            || v < LEAST_MENDED[what] || v > MOST_MENDED[what]) {
            return BAD;
        }
        int was = town.numberOf(number, what);
        if (was != v) {
            changes.add(number, what, was, v);
            town.setNumber(number, what, v);
        }
        return was;
    }

    public int of(int number, int what) {
        if (what < 0 || what >= TOLD || !town.hasNumber(number, what)) {
            return BAD;
        }
        return town.numberOf(number, what);
    }

    public int feed(int letter) {
        if (letter < 0 || letter > 255) {
            return BAD;
        }
        return tape.addLetter(letter);
    }

    public int law() {
        boolean good = tape.readText();
        if (good) {
            town.law.become(tape.codes, tape.written);
        }
        tape.length = 0;
        return good ? 1 : FAULT_AT_0 - tape.at;
    }

    public int hard(int promise) {
        if (!town.hasPromise(promise)) {
            return BAD;
        }
        Moment m = town.now();
        return town.hardness(promise, town.othersOn(promise, m), m);
    }

    // ---- in thought

    public int route(int shelf, int n, int one, int what) {
        if (!isShelf(shelf) || n < 0 || n > MOST_STEPS || !town.hasPerson(one) || what < 0 || what > 3) {
            return BAD;
        }
        int refusal = shelves[shelf].refusalAsBytes();
        return refusal != 0 ? refusal : walks.alongRoute(shelves[shelf], n, one, what);
    }

    public int held(int one, int what) {
        if (!town.hasPerson(one) || !isBit(what)) {
            return BAD;
        }
        if (what == 0) {
            return Integer.bitCount(town.gripsNow(one));
        }
        return town.hardestNow(one);
    }

    public int best(int one, int t, int k) {
        if (!town.hasPerson(one) || t < 0 || t > MOST_BEST_DAYS || k < -1 || k >= t) {
            return BAD;
        }
        return walks.bestSteps(one, t, k);
    }

    public int soonest(int one, int place) {
        if (!town.hasPerson(one) || !isPlace(place)) {
            return BAD;
        }
        return walks.daysTo(one, place);
    }

    public int free(int one) {
        if (!town.hasPerson(one)) {
            return BAD;
        }
        return PLACES - Integer.bitCount(town.gripPlaces(one, town.now()));
    }

    public int words(int one, int what) {
        if (!town.hasPerson(one) || !isBit(what)) {
            return BAD;
        }
        int bits = release.fewestWords(one);
        return what == 0 ? Integer.bitCount(bits) : bits;
    }

    public int all(int what) {
        if (!isBit(what)) {
            return BAD;
        }
        int bits = release.fewestPeople();
        return what == 0 ? Integer.bitCount(bits) : bits;
    }

    public int ring() {
        return release.shortestRing();
    }

    public int breaks(int one, int what) {
        if (!town.hasPerson(one) || !isBit(what)) {
            return BAD;
        }
        int bits = release.leastRued(one);
        if (bits < 0) {
            return NOT;
        }
        return what == 0 ? town.weightOf(bits) : bits;
    }

    // ---- what was seen, rounds, odds

    public int judge(int ss, int one) {
        int way = ss / 10;
        int seen = ss % 10;
        if (!isShelf(way) || !isShelf(seen) || !town.hasPerson(one)) {
            return BAD;
        }
        int refusal = shelves[way].refusalAsBytes();
        if (refusal == 0) {
            refusal = shelves[seen].refusalAsBytes();
        }
        return refusal != 0 ? refusal : walks.firstWrong(shelves[way], shelves[seen], one);
    }

    public int can(int shelf, int one) {
        if (!isShelf(shelf) || !town.hasPerson(one)) {
            return BAD;
        }
        int refusal = shelves[shelf].refusalAsBytes();
        if (refusal != 0) {
            return refusal;
        }
        return walks.fits(shelves[shelf], one) ? 1 : 0;
    }

    public int who(int shelf) {
        if (!isShelf(shelf)) {
            return BAD;
        }
        int refusal = shelves[shelf].refusalAsBytes();
        if (refusal != 0) {
            return refusal;
        }
        int bits = 0;
        for (int one = 0; one < town.people; one++) {
            if (walks.fits(shelves[shelf], one)) {
                bits |= 1 << one;
            }
        }
        return bits;
    }

    public int feeds(int place, int k) {
        if (!isPlace(place) || k < -1) {
            return BAD;
        }
        return round.leastWay(place, town.placesOfHeld(), k);
    }

    public long odds(int one, int part) {
        if (!town.hasPerson(one) || !isBit(part)) {
            return Long.MIN_VALUE;
        }
        return release.chance(one, part);
    }

    public int rued(int one, int t) {
        if (!town.hasPerson(one) || t < 0 || t > MOST_RUED_STEPS) {
            return BAD;
        }
        return walks.neverKept(one, t);
    }

    public int byTurns(int ab, int place, int n, int what) {
        int man = ab / 10;
        int child = ab % 10;
        if (!town.hasPerson(man) || !town.hasPerson(child) || man == child
            || !isPlace(place) || n < 1 || n > MOST_DEEDS || !isBit(what)) {
            return BAD;
        }
        return walks.withChild(man, child, place, n, what);
    }

    public int drawn(int seed, int nm, int one, int place) {
        int years = nm / 100;
        int days = nm % 100;
        if (years < 1 || years > MOST_YEARS || days < 1 || days > MOST_DAYS_OF_YEAR
            || !town.hasPerson(one) || (place != -1 && !isPlace(place))) {
            return BAD;
        }
        return walks.yearsByDraws(seed, years, days, one, place);
    }

    // ---- in deed

    public int step(int one, int way) {
        if (!town.hasPerson(one) || way < 0 || way >= WAYS) {
            return BAD;
        }
        if (town.gripsNow(one) != 0) {
            town.led[IN_VAIN]++;
        } else {
            town.led[STEPPED]++;
            town.place[one] = stepped(town.place[one], way);
        }
        return town.place[one];
    }

    public int pull(int promise) {
        if (!town.hasPromise(promise)) {
            return BAD;
        }
        int one = town.by[promise];
        if (!hasBit(town.gripsNow(one), promise) || town.boots[one] < 1) {
            return STATE;
        }
        town.gone |= 1 << promise;
        town.boots[one]--;
        town.led[PULLED]++;
        return town.boots[one];
    }

    public int letOff(int promise) {
        if (!town.hasPromise(promise)) {
            return BAD;
        }
        if (hasBit(town.gone, promise)) {
            return STATE;
        }
        town.gone |= 1 << promise;
        town.led[LET_OFF]++;
        return 1;
    }

    public int forget(int promise) {
        if (!town.hasPromise(promise)) {
            return BAD;
        }
        if (hasBit(town.forgot, promise)) {
            return STATE;
        }
        town.forgot |= 1 << promise;
        return 1;
    }

    public int day() {
        town.day = dayBehind(town.day, 1);
        town.led[DAYS]++;
        return town.day;
    }

    public int led(int what) {
        if (what < 0 || what >= LED) {
            return BAD;
        }
        return town.led[what];
    }

    public int image() {
        kept.take(town);
        return town.led[DAYS];
    }

    public int back() {
        if (!kept.taken) {
            return STATE;
        }
        kept.layBack(town);
        return town.led[DAYS];
    }

    public int undo() {
        return changes.takeBack();
    }

    public int redo() {
        return changes.doAgain();
    }

    // ---- acts, shelves

    public int body(int kind) {
        if (!isKind(kind)) {
            return BAD;
        }
        return bodies.add(kind);
    }

    public int act(int body, int act, int x) {
        return bodies.perform(body, act, x);
    }

    public int trace(int i) {
        return bodies.traced(i);
    }

    public int keep(int shelf, int body) {
        if (!isShelf(shelf) || (body != -1 && !bodies.has(body))) {
            return BAD;
        }
        shelves[shelf].holdBody(body);
        return 1;
    }

    public int row(int shelf, int sort, int n) {
        if (!isShelf(shelf) || sort < 0 || sort >= SORTS || n > MOST_ELEMENTS) {
            return BAD;
        }
        if (n < 0) {
            return SIZE_BELOW_0;
        }
        shelves[shelf].holdRow(sort, n);
        return 1;
    }

    public int put(int shelf, int i, long v) {
        if (!isShelf(shelf)) {
            return BAD;
        }
        int refusal = shelves[shelf].refusalOfElement(i);
        if (refusal != 0) {
            return refusal;
        }
        shelves[shelf].setElement(i, v);
        return 1;
    }

    public long element(int shelf, int i) {
        if (!isShelf(shelf) || shelves[shelf].refusalOfElement(i) != 0) {
            return Long.MIN_VALUE;
        }
        return shelves[shelf].elements[i];
    }

    public int shift(int shelf, int i, int other, int j, int n) {
        if (!isShelf(shelf) || !isShelf(other)) {
            return BAD;
        }
        return shelves[other].takeFrom(shelves[shelf], i, j, n);
    }

    public int taken(int shelf, int k) {
        if (!isShelf(shelf) || !isKind(k)) {
            return BAD;
        }
        if (shelves[shelf].isEmpty()) {
            return MISSING;
        }
        int kind = bodies.kindOf(shelves[shelf].body);
        return bodies.isUnder(kind, k) ? kind : OTHER_KIND;
    }

    public int count(int what) {
        switch (what) {
            case 0:
                return town.people;
            case 1:
                return town.promises;
            case 2:
                return tape.length;
            case 3:
                return changes.done;
            case 4:
                return bodies.kept;
            case 5:
                return bodies.ran;
            default:
                return BAD;
        }
    }

    // ---- numbers, places, days

    private static boolean isBit(int v) {
        return v == 0 || v == 1;
    }

    private static boolean hasBit(int bits, int i) {
        return (bits >> i & 1) != 0;
    }

    private static boolean isPlace(int v) {
        return v >= 0 && v < PLACES;
    }

    private static boolean isShelf(int v) {
        return v >= 0 && v < SHELVES;
    }

    private static boolean isKind(int v) {
        return v >= 0 && v < Bodies.KINDS;
    }

    private static int dayBehind(int from, int days) {
        return Math.min(LAST_DAY, from + days);
    }

    private static int stepped(int place, int way) {
        int x = place % SIDE;
        int y = place / SIDE;
        switch (way) {
            case 0:
                return y > 0 ? place - SIDE : place;
            case 1:
                return x < SIDE - 1 ? place + 1 : place;
            case 2:
                return y < SIDE - 1 ? place + SIDE : place;
            case 3:
                return x > 0 ? place - 1 : place;
            default:
                return place;
        }
    }

    private static int distance(int a, int b) {
        return Math.abs(a % SIDE - b % SIDE) + Math.abs(a / SIDE - b / SIDE);
    }

    /** All places where one who is at one of these can be a day later; who is held there stays. */
    private static int spread(int places, int gripped) {
        int loose = places & ~gripped;
        int up = loose >> SIDE;
        int down = loose << SIDE & ALL_PLACES;
        int right = (loose & ~RIGHT_EDGE) << 1;
        int left = (loose & ~LEFT_EDGE) >> 1;
        return places | up | down | right | left;
    }

    /** What a thought may hold other than the town: its promises are asked by this, never changed. */
    private static final class Moment {
        private int day;
        private int gone;
        private int forgot;
        private int bootsLess;
    }

    /** People and promises as they stand, and whom they hold. Promises that are gone, forgotten are bits. */
    private static final class Town {
        private final int[] place = new int[MOST_PEOPLE];
        private final int[] boots = new int[MOST_PEOPLE];
        private final int[] by = new int[MOST_PROMISES];
        private final int[] to = new int[MOST_PROMISES];
        private final int[] at = new int[MOST_PROMISES];
        private final int[] weight = new int[MOST_PROMISES];
        private final int[] from = new int[MOST_PROMISES];
        private final int[] till = new int[MOST_PROMISES];
        private final int[] led = new int[LED];
        private final int[] facts = new int[Law.NAMES];
        private final Law law = new Law();
        private final Moment moment = new Moment();
        private int people = 0;
        private int promises = 0;
        private int forgot = 0;
        private int gone = 0;
        private int holds = FIRST_HOLDS;
        private int day = 0;

        boolean hasPerson(int one) {
            return one >= 0 && one < people;
        }

        boolean hasPromise(int p) {
            return p >= 0 && p < promises;
        }

        int addPerson(int where) {
            if (people >= MOST_PEOPLE) {
                return FULL;
            }
            place[people] = where;
            boots[people] = FIRST_BOOTS;
            people++;
            return people - 1;
        }

        boolean mayPromise(int maker, int taker, int where, int heavy, int last) {
            return hasPerson(maker) && hasPerson(taker) && maker != taker && isPlace(where)
                && heavy >= 0 && heavy <= MOST_WEIGHT && last >= 0 && last <= LAST_DAY;
        }

        int addPromise(int maker, int taker, int where, int heavy, int last) {
            if (promises >= MOST_PROMISES) {
                return FULL;
            }
            by[promises] = maker;
            to[promises] = taker;
            at[promises] = where;
            weight[promises] = heavy;
            from[promises] = day;
            till[promises] = last;
            promises++;
            return promises - 1;
        }

        boolean hasNumber(int number, int what) {
            if (what == PLACE_OF || what == BOOTS_OF) {
                return hasPerson(number);
            }
            if (what == HOLDS_OF_ALL || what == DAY_OF_ALL) {
                return number == 0;
            }
            return hasPromise(number);
        }

        int numberOf(int number, int what) {
            if (!hasNumber(number, what)) {
                return BAD;
            }
            switch (what) {
                case PLACE_OF:
                    return place[number];
                case BOOTS_OF:
                    return boots[number];
                case AT_OF:
                    return at[number];
                case WEIGHT_OF:
                    return weight[number];
                case FROM_OF:
                    return from[number];
                case TILL_OF:
                    return till[number];
                case FORGOT_OF:
                    return forgot >> number & 1;
                case GONE_OF:
                    return gone >> number & 1;
                case HOLDS_OF_ALL:
                    return holds;
                case DAY_OF_ALL:
                    return day;
                case BY_OF:
                    return by[number];
                case TO_OF:
                    return to[number];
                default:
                    return BAD;
            }
        }

        void setNumber(int number, int what, int v) {
            if (!hasNumber(number, what)) {
                return;
            }
            switch (what) {
                case PLACE_OF:
                    place[number] = v;
                    break;
                case BOOTS_OF:
                    boots[number] = v;
                    break;
                case AT_OF:
                    at[number] = v;
                    break;
                case WEIGHT_OF:
                    weight[number] = v;
                    break;
                case FROM_OF:
                    from[number] = v;
                    break;
                case TILL_OF:
                    till[number] = v;
                    break;
                case FORGOT_OF:
                    forgot = forgot & ~(1 << number) | v << number;
                    break;
                case GONE_OF:
                    gone = gone & ~(1 << number) | v << number;
                    break;
                case HOLDS_OF_ALL:
                    holds = v;
                    break;
                case DAY_OF_ALL:
                    day = v;
                    break;
                default:
                    break;
            }
        }

        /** The one moment of this town, set to what is so now. */
        Moment now() {
            moment.day = day;
            moment.gone = gone;
            moment.forgot = forgot;
            moment.bootsLess = 0;
            return moment;
        }

        boolean isOn(int p, int goneThen, int when) {
            return !hasBit(goneThen, p) && from[p] <= when && when <= till[p];
        }

        int othersOn(int p, Moment m) {
            int others = 0;
            for (int q = 0; q < promises; q++) {
                if (q != p && by[q] == by[p] && at[q] == at[p] && isOn(q, m.gone, m.day)) {
                    others++;
                }
            }
            return others;
        }

        int hardness(int p, int others, Moment m) {
            int left = Math.max(0, till[p] - m.day);
            int lost = m.forgot >> p & 1;
            if (!law.isTold()) {
                return within(weight[p] / 2 + (left < 3 ? 1 : 0) - 3 * lost);
            }
            facts[Law.WEIGHT] = weight[p];
            facts[Law.DAYS_LEFT] = left;
            facts[Law.BOOTS] = boots[by[p]] - m.bootsLess;
            facts[Law.OTHERS] = others;
            facts[Law.FORGOT] = lost;
            facts[Law.DAY] = m.day;
            return within(law.worth(facts));
        }

        private static int within(int v) {
            return Math.max(0, Math.min(HARDEST, v));
        }

        /** Which promises hold one, if he is at a place. */
        int gripsAt(int one, int where, Moment m) {
            int bits = 0;
            for (int p = 0; p < promises; p++) {
                if (by[p] == one && at[p] == where && isOn(p, m.gone, m.day)
                    && hardness(p, othersOn(p, m), m) >= holds) {
                    bits |= 1 << p;
                }
            }
            return bits;
        }

        int gripsNow(int one) {
            return gripsAt(one, place[one], now());
        }

        /** All places (bits) that hold one who stands there. */
        int gripPlaces(int one, Moment m) {
            int bits = 0;
            for (int p = 0; p < promises; p++) {
                if (by[p] == one && !hasBit(bits, at[p]) && isOn(p, m.gone, m.day)
                    && hardness(p, othersOn(p, m), m) >= holds) {
                    bits |= 1 << at[p];
                }
            }
            return bits;
        }

        /** Which promises of one are on at a place, on a day. */
        int onAt(int one, int where, int when) {
            int bits = 0;
            for (int p = 0; p < promises; p++) {
                if (by[p] == one && at[p] == where && isOn(p, gone, when)) {
                    bits |= 1 << p;
                }
            }
            return bits;
        }

        int hardestNow(int one) {
            int on = onAt(one, place[one], day);
            Moment m = now();
            int hardest = 0;
            for (int p = 0; p < promises; p++) {
                if (hasBit(on, p)) {
                    hardest = Math.max(hardest, hardness(p, othersOn(p, m), m));
                }
            }
            return hardest;
        }

        int placesOfHeld() {
            int bits = 0;
            for (int one = 0; one < people; one++) {
                if (gripsNow(one) != 0) {
                    bits |= 1 << place[one];
                }
            }
            return bits;
        }

        int weightOf(int bits) {
            int sum = 0;
            for (int p = 0; p < promises; p++) {
                if (hasBit(bits, p)) {
                    sum += weight[p];
                }
            }
            return sum;
        }
    }

    /**
     * A law as codes, in the order in which they are worked out: a number from 0 on stands for itself,
     * -1 - i for name i, and an operator for its letter, negative.
     */
    private static final class Law {
        private static final int WEIGHT = 0, DAYS_LEFT = 1, BOOTS = 2, OTHERS = 3, FORGOT = 4, DAY = 5, NAMES = 6;
        private static final char[] NAME_LETTERS = {'w', 'd', 'b', 'o', 'f', 'y'};
        private static final int MOST_CODES = 128;
        private static final int END_OF_LINE = -';', IF_SO = -'?', NO = -'!', NEGATIVE = -'~';

        private final int[] codes = new int[MOST_CODES];
        private final int[] stack = new int[MOST_CODES];
        private int length = 0;

        boolean isTold() {
            return length > 0;
        }

        void become(int[] told, int n) {
            length = Math.min(n, Math.min(told.length, MOST_CODES));
            for (int i = 0; i < length; i++) {
                codes[i] = told[i];
            }
        }

        int worth(int[] facts) {
            int top = 0;
            for (int i = 0; i < length; i++) {
                int code = codes[i];
                if (code == END_OF_LINE) {
                    return stack[0];
                }
                if (code == IF_SO) {
                    i = stack[0] == 0 ? endOfLine(i) : i;
                    top = 0;
                } else if (code >= -NAMES) {
                    if (top < MOST_CODES) {
                        stack[top] = code >= 0 ? code : facts[-1 - code];
                        top++;
                    }
                } else if (code == NO || code == NEGATIVE) {
                    if (top >= 1) {
                        stack[top - 1] = joined(code, 0, stack[top - 1]);
                    }
                } else if (top >= 2) {
                    top--;
                    stack[top - 1] = joined(code, stack[top - 1], stack[top]);
                }
            }
            return 0;
        }

        private int endOfLine(int i) {
            for (int j = i; j < length; j++) {
                if (codes[j] == END_OF_LINE) {
                    return j;
                }
            }
            return length;
        }

        private static int joined(int code, int a, int b) {
            switch (-code) {
                case '|':
                    return a != 0 || b != 0 ? 1 : 0;
                case '&':
                    return a != 0 && b != 0 ? 1 : 0;
                case '<':
                    return a < b ? 1 : 0;
                case '=':
                    return a == b ? 1 : 0;
                case '>':
                    return a > b ? 1 : 0;
                case '!':
                    return b == 0 ? 1 : 0;
                case '+':
                    return a + b;
                case '-':
                case '~':
                    return a - b;
                case '*':
                    return a * b;
                case '/':
                    return b == 0 ? 0 : a / b;
                case '%':
                    return b == 0 ? 0 : a % b;
                default:
                    return 0;
            }
        }
    }

    /**
     * Letters that become a law. Each reader stops at the first letter with which no text goes on,
     * so that where it stopped is the fault.
     */
    private static final class Tape {
        private static final int MOST_LETTERS = 120, MOST_DIGITS = 4, MOST_OPEN = 6;
        private static final int COMPARING = 2, OPERAND = 5;
        private static final int NO_LETTER = -1, NO_OPERATOR = 0;

        private final int[] letters = new int[MOST_LETTERS];
        private final int[] codes = new int[Law.MOST_CODES];
        private int length = 0;
        private int at = 0;
        private int written = 0;

        int addLetter(int letter) {
            if (length >= MOST_LETTERS) {
                return FULL;
            }
            letters[length] = letter;
            length++;
            return length;
        }

        private int letter() {
            return at < length ? letters[at] : NO_LETTER;
        }

        private void write(int code) {
            if (written < Law.MOST_CODES) {
                codes[written] = code;
                written++;
            }
        }

        boolean readText() {
            at = 0;
            written = 0;
            for (int line = 0; line <= MOST_LETTERS; line++) {
                if (!readLine()) {
                    return false;
                }
                if (at >= length) {
                    return true;
                }
                if (letter() != ';') {
                    return false;
                }
                at++;
            }
            return false;
        }

        private boolean readLine() {
            if (!readChain(0, 0)) {
                return false;
            }
            if (letter() == '?') {
                at++;
                write(Law.IF_SO);
                if (!readChain(0, 0)) {
                    return false;
                }
            }
            write(Law.END_OF_LINE);
            return true;
        }

        /** Parts joined by operators of one level; the parts are of the next level, which binds closer. */
        private boolean readChain(int level, int open) {
            if (level >= OPERAND) {
                return readOperand(open);
            }
            if (!readChain(level + 1, open)) {
                return false;
            }
            int most = level == COMPARING ? 1 : MOST_LETTERS;
            for (int i = 0; i < most; i++) {
                int operator = operatorOf(level, letter());
                if (operator == NO_OPERATOR) {
                    return true;
                }
                at++;
                if (!readChain(level + 1, open)) {
                    return false;
                }
                write(operator);
            }
            return true;
        }

        private static int operatorOf(int level, int letter) {
            boolean fits;
            switch (level) {
                case 0:
                    fits = letter == '|';
                    break;
                case 1:
                    fits = letter == '&';
                    break;
                case COMPARING:
                    fits = letter == '<' || letter == '=' || letter == '>';
                    break;
                case 3:
                    fits = letter == '+' || letter == '-';
                    break;
                default:
                    fits = letter == '*' || letter == '/' || letter == '%';
                    break;
            }
            return fits ? -letter : NO_OPERATOR;
        }

        private boolean readOperand(int open) {
            int first = letter();
            if (isDigit(first)) {
                readNumber();
                return true;
            }
            for (int name = 0; name < Law.NAMES; name++) {
                if (first == Law.NAME_LETTERS[name]) {
                    at++;
                    write(-1 - name);
                    return true;
                }
            }
            return readOpened(first, open);
        }

        private boolean readOpened(int first, int open) {
            if (open >= MOST_OPEN || (first != '(' && first != '!' && first != '-')) {
                return false;
            }
            at++;
            if (first == '(') {
                if (!readChain(0, open + 1) || letter() != ')') {
                    return false;
                }
                at++;
                return true;
            }
            if (!readOperand(open + 1)) {
                return false;
            }
            write(first == '!' ? Law.NO : Law.NEGATIVE);
            return true;
        }

        private static boolean isDigit(int letter) {
            return letter >= '0' && letter <= '9';
        }

        private void readNumber() {
            int v = 0;
            for (int i = 0; i < MOST_DIGITS && isDigit(letter()); i++) {
                v = v * 10 + letter() - '0';
                at++;
            }
            write(v);
        }
    }

    /** Where one can come, day by day, and what he keeps there. */
    private static final class Walks {
        private static final int DRAW_TIMES = 1103515245, DRAW_PLUS = 12345;
        /** The man's share of the most deeds, as he is first. */
        private static final int MANS_DEEDS = 3;

        private final Town town;
        /** The places that hold the one who is thought of, on each day from today on (by turns: see there). */
        private final int[] gripped = new int[MOST_DAYS_OF_YEAR + 1];
        private final int[] ways = new int[MOST_BEST_DAYS];
        private final int[] bestWays = new int[MOST_BEST_DAYS];
        private int bestWeight;
        private int one;
        private int goal;
        private int mostForgotten;

        Walks(Town town) {
            this.town = town;
        }

        private void thinkOf(int someone, int days) {
            one = someone;
            Moment m = town.now();
            for (int d = 0; d <= days && d < gripped.length; d++) {
                m.day = dayBehind(town.day, d);
                gripped[d] = town.gripPlaces(one, m);
            }
        }

        private boolean isHeld(int where, int d) {
            return d < 0 || d >= gripped.length || hasBit(gripped[d], where);
        }

        private int keptAt(int where, int d) {
            return town.onAt(one, where, dayBehind(town.day, d));
        }

        int alongRoute(Shelf row, int n, int someone, int what) {
            int steps = Math.min(n, row.steps());
            thinkOf(someone, steps);
            int where = town.place[one];
            int daysHeld = 0;
            int bits = keptAt(where, 0);
            for (int d = 0; d < steps; d++) {
                if (isHeld(where, d)) {
                    daysHeld++;
                } else {
                    where = stepped(where, row.number(d));
                }
                bits |= keptAt(where, d + 1);
            }
            switch (what) {
                case 0:
                    return where;
                case 1:
                    return daysHeld;
                case 2:
                    return town.weightOf(bits);
                default:
                    return bits;
            }
        }

        int bestSteps(int someone, int t, int k) {
            thinkOf(someone, t);
            bestWeight = -1;
            int where = town.place[one];
            tryWays(where, keptAt(where, 0), 0, t);
            return k >= 0 && k < MOST_BEST_DAYS ? bestWays[k] : bestWeight;
        }

        private void tryWays(int where, int bits, int d, int t) {
            if (d >= t || d >= MOST_BEST_DAYS) {
                takeIfBetter(town.weightOf(bits));
                return;
            }
            // For one who is held all ways are alike, so that the first stands for all.
            int tried = isHeld(where, d) ? 1 : WAYS;
            for (int way = 0; way < tried; way++) {
                int next = tried == 1 ? where : stepped(where, way);
                ways[d] = way;
                tryWays(next, bits | keptAt(next, d + 1), d + 1, t);
            }
        }

        private void takeIfBetter(int weight) {
            if (weight <= bestWeight) {
                return;
            }
            bestWeight = weight;
            for (int i = 0; i < MOST_BEST_DAYS; i++) {
                bestWays[i] = ways[i];
            }
        }

        int daysTo(int someone, int there) {
            thinkOf(someone, MOST_SOON_DAYS);
            int places = 1 << town.place[one];
            for (int d = 0; d <= MOST_SOON_DAYS; d++) {
                if (hasBit(places, there)) {
                    return d;
                }
                places = spread(places, gripped[d]);
            }
            return NOT;
        }

        int neverKept(int someone, int t) {
            thinkOf(someone, t);
            int bits = 0;
            for (int p = 0; p < town.promises; p++) {
                if (town.by[p] == one && !hasBit(town.gone, p)) {
                    bits |= 1 << p;
                }
            }
            int places = 1 << town.place[one];
            for (int d = 0; d <= t && d < gripped.length; d++) {
                bits &= ~onAtAny(places, d);
                places = spread(places, gripped[d]);
            }
            return bits;
        }

        private int onAtAny(int places, int d) {
            int bits = 0;
            int when = dayBehind(town.day, d);
            for (int p = 0; p < town.promises; p++) {
                if (hasBit(places, town.at[p]) && town.isOn(p, town.gone, when)) {
                    bits |= 1 << p;
                }
            }
            return bits;
        }

        int firstWrong(Shelf route, Shelf seen, int someone) {
            int steps = route.steps();
            int looks = Math.min(MOST_SEEN, seen.length);
            thinkOf(someone, steps);
            int where = town.place[one];
            for (int i = 0; i < looks; i++) {
                if (i > steps || !hasBit(placesSeen(seen.number(i)), where)) {
                    return i;
                }
                if (i < steps && !isHeld(where, i)) {
                    where = stepped(where, route.number(i));
                }
            }
            return NOT;
        }

        boolean fits(Shelf seen, int someone) {
            int looks = Math.min(MOST_SEEN, seen.length);
            thinkOf(someone, looks);
            int places = 1 << town.place[one];
            for (int i = 0; i < looks; i++) {
                places &= placesSeen(seen.number(i));
                places = spread(places, gripped[i]);
            }
            return places != 0;
        }

        private static int placesSeen(int v) {
            if (v == NOT_SEEN) {
                return ALL_PLACES;
            }
            return isPlace(v) ? 1 << v : 0;
        }

        int withChild(int man, int child, int there, int n, int what) {
            goal = there;
            thinkOfTurns(man, child);
            int where = town.place[man];
            int first = NO_WAY;
            int nearest = childsDeed(where, 1, 0, n - 1);
            int tried = isHeld(where, 0) ? 0 : NO_WAY;
            for (int way = 0; way < tried; way++) {
                int far = childsDeed(stepped(where, way), 1, 0, n - 1);
                first = far < nearest ? way : first;
                nearest = Math.min(nearest, far);
            }
            return what == 0 ? nearest : first;
        }

        /**
         * Where the man is held ahead of each of his deeds, by how often the child forgot: as the child can but
         * forget the least one, nothing else differs from game to game.
         */
        private void thinkOfTurns(int man, int child) {
            int toForget = 0;
            for (int p = 0; p < town.promises; p++) {
                if (town.to[p] == child && !hasBit(town.forgot, p)) {
                    toForget |= 1 << p;
                }
            }
            mostForgotten = Math.min(MANS_DEEDS - 1, Integer.bitCount(toForget));
            Moment m = town.now();
            for (int times = 0; times <= mostForgotten; times++) {
                for (int d = times; d < MANS_DEEDS; d++) {
                    m.day = dayBehind(town.day, d);
                    gripped[MANS_DEEDS * times + d] = town.gripPlaces(man, m);
                }
                int least = Integer.lowestOneBit(toForget);
                m.forgot |= least;
                toForget &= ~least;
            }
        }

        private int mansDeed(int where, int d, int times, int left) {
            if (left <= 0) {
                return distance(where, goal);
            }
            int nearest = childsDeed(where, d + 1, times, left - 1);
            if (isHeld(where, MANS_DEEDS * times + d)) {
                return nearest;
            }
            for (int way = 0; way < NO_WAY; way++) {
                nearest = Math.min(nearest, childsDeed(stepped(where, way), d + 1, times, left - 1));
            }
            return nearest;
        }

        private int childsDeed(int where, int d, int times, int left) {
            if (left <= 0) {
                return distance(where, goal);
            }
            int farthest = mansDeed(where, d, times, left - 1);
            if (times < mostForgotten) {
                farthest = Math.max(farthest, mansDeed(where, d, times + 1, left - 1));
            }
            return farthest;
        }

        int yearsByDraws(int seed, int years, int days, int someone, int there) {
            thinkOf(someone, days);
            int z = seed;
            int daysHeld = 0;
            int timesThere = 0;
            for (int year = 0; year < years; year++) {
                int where = town.place[one];
                for (int d = 0; d < days; d++) {
                    z = z * DRAW_TIMES + DRAW_PLUS;
                    if (isHeld(where, d)) {
                        daysHeld++;
                    } else {
                        where = stepped(where, (z >>> 8) % WAYS);
                    }
                }
                timesThere += where == there ? 1 : 0;
            }
            return there < 0 ? daysHeld : timesThere;
        }
    }

    /** By what one who is held comes free, or all do. */
    private static final class Release {
        private final Town town;
        /**
         * Which promises hold when i of those there are gone. How many are left is all that a law can
         * tell of the others, so that this need not be asked for each choice of them.
         */
        private final int[] gripsLess = new int[MOST_PROMISES + 1];
        /** To whom each one is held. */
        private final int[] heldTo = new int[MOST_PEOPLE];

        Release(Town town) {
            this.town = town;
        }

        /** Which of his promises are on there today. */
        private int onWhereHeStands(int one) {
            return town.onAt(one, town.place[one], town.day);
        }

        private void foresee(int there, int most, boolean bootsGo) {
            int all = Integer.bitCount(there);
            Moment m = town.now();
            for (int less = 0; less <= MOST_PROMISES; less++) {
                gripsLess[less] = 0;
                m.bootsLess = bootsGo ? less : 0;
                for (int p = 0; p < town.promises && less < all && less <= most; p++) {
                    if (hasBit(there, p) && town.hardness(p, all - less - 1, m) >= town.holds) {
                        gripsLess[less] |= 1 << p;
                    }
                }
            }
        }

        private boolean isFree(int there, int less) {
            return (there & ~less & gripsLess[Integer.bitCount(less & there)]) == 0;
        }

        int fewestWords(int one) {
            int there = onWhereHeStands(one);
            foresee(there, MOST_PROMISES, false);
            int all = 1 << Integer.bitCount(there);
            int fewest = there;
            int less = 0;
            for (int i = 0; i < all; i++) {
                if (Integer.bitCount(less) < Integer.bitCount(fewest) && isFree(there, less)) {
                    fewest = less;
                }
                less = nextPart(less, there);
            }
            return fewest;
        }

        /** The bits whose weight is least; below 0, if there are none. */
        int leastRued(int one) {
            int there = onWhereHeStands(one);
            int boots = town.boots[one];
            foresee(there, boots, true);
            int all = 1 << Integer.bitCount(there);
            int least = -1;
            int weight = Integer.MAX_VALUE;
            int less = 0;
            for (int i = 0; i < all; i++) {
                if (Integer.bitCount(less) <= boots && isFree(there, less) && town.weightOf(less) < weight) {
                    least = less;
                    weight = town.weightOf(less);
                }
                less = nextPart(less, there);
            }
            return least;
        }

        /** The next greater number all of whose bits are in another one. */
        private static int nextPart(int part, int whole) {
            return (part - whole) & whole;
        }

        int fewestPeople() {
            int asked = peopleWhoCanFree();
            int all = 1 << Integer.bitCount(asked);
            int fewest = asked;
            int bits = 0;
            for (int i = 0; i < all; i++) {
                if (Integer.bitCount(bits) < Integer.bitCount(fewest) && nobodyIsHeldWithout(bits)) {
                    fewest = bits;
                }
                bits = nextPart(bits, asked);
            }
            return fewest;
        }

        /** Those to whom something was promised that is on where its maker stands; nobody else can free anyone. */
        private int peopleWhoCanFree() {
            int bits = 0;
            for (int one = 0; one < town.people; one++) {
                bits |= onWhereHeStands(one);
            }
            return peopleOf(bits);
        }

        private boolean nobodyIsHeldWithout(int people) {
            Moment m = town.now();
            for (int p = 0; p < town.promises; p++) {
                if (hasBit(people, town.to[p])) {
                    m.gone |= 1 << p;
                }
            }
            for (int one = 0; one < town.people; one++) {
                if (town.gripsAt(one, town.place[one], m) != 0) {
                    return false;
                }
            }
            return true;
        }

        int shortestRing() {
            for (int one = 0; one < town.people; one++) {
                heldTo[one] = peopleOf(town.gripsNow(one));
            }
            int shortest = MOST_PEOPLE + 1;
            for (int one = 0; one < town.people; one++) {
                int reached = heldTo[one];
                for (int length = 1; length < shortest; length++) {
                    if (hasBit(reached, one)) {
                        shortest = length;
                    }
                    reached = nextInRing(reached);
                }
            }
            return shortest > MOST_PEOPLE ? NOT : shortest;
        }

        /** To whom these were promised. */
        private int peopleOf(int bits) {
            int people = 0;
            for (int p = 0; p < town.promises; p++) {
                if (hasBit(bits, p)) {
                    people |= 1 << town.to[p];
                }
            }
            return people;
        }

        private int nextInRing(int people) {
            int next = 0;
            for (int one = 0; one < town.people; one++) {
                if (hasBit(people, one)) {
                    next |= heldTo[one];
                }
            }
            return next;
        }

        /**
         * What is forgotten of one promise tells nothing to another, so that each leaves him free
         * always, half the time, or never, and the line's lower part is a power of 2.
         */
        long chance(int one, int part) {
            int there = onWhereHeStands(one);
            int others = Integer.bitCount(there) - 1;
            Moment m = town.now();
            long below = 1;
            for (int p = 0; p < town.promises; p++) {
                if (!hasBit(there, p)) {
                    continue;
                }
                m.forgot = 0;
                boolean grips = town.hardness(p, others, m) >= town.holds;
                m.forgot = 1 << p;
                boolean gripsForgotten = town.hardness(p, others, m) >= town.holds;
                if (grips && gripsForgotten) {
                    return part == 0 ? 0 : 1;
                }
                below = grips || gripsForgotten ? below * 2 : below;
            }
            return part == 0 ? 1 : below;
        }
    }

    /** The least way round by some places. Places are tried as they are numbered, so that the first is kept. */
    private static final class Round {
        private final int[] stops = new int[MOST_PEOPLE];
        private final int[] trail = new int[MOST_PEOPLE];
        private final int[] bestTrail = new int[MOST_PEOPLE];
        private int size;
        private int start;
        private int least;

        int leastWay(int place, int places, int k) {
            size = 0;
            for (int i = 0; i < PLACES; i++) {
                if (hasBit(places, i) && size < MOST_PEOPLE) {
                    stops[size] = i;
                    size++;
                }
            }
            if (k >= size) {
                return NOT;
            }
            start = place;
            least = Integer.MAX_VALUE;
            goOn(place, 0, 0, 0);
            return k < 0 ? least : bestTrail[k];
        }

        private void goOn(int where, int been, int far, int depth) {
            if (depth >= size || depth >= MOST_PEOPLE) {
                takeIfLess(far + distance(where, start));
                return;
            }
            for (int i = 0; i < size; i++) {
                int next = far + distance(where, stops[i]);
                if (!hasBit(been, i) && next < least) {
                    trail[depth] = stops[i];
                    goOn(stops[i], been | 1 << i, next, depth + 1);
                }
            }
        }

        private void takeIfLess(int far) {
            if (far >= least) {
                return;
            }
            least = far;
            for (int i = 0; i < size; i++) {
                bestTrail[i] = trail[i];
            }
        }
    }

    /** What was mended, the latest last: the first ones are done, those behind them are undone. */
    private static final class Changes {
        private static final int MOST_CHANGES = 40;

        private final Town town;
        private final int[] numbers = new int[MOST_CHANGES];
        private final int[] whats = new int[MOST_CHANGES];
        private final int[] before = new int[MOST_CHANGES];
        private final int[] behind = new int[MOST_CHANGES];
        private int done = 0;
        private int size = 0;

        Changes(Town town) {
            this.town = town;
        }

        void add(int number, int what, int was, int becomes) {
            if (done >= MOST_CHANGES) {
                loseOldest();
            }
            numbers[done] = number;
            whats[done] = what;
            before[done] = was;
            behind[done] = becomes;
            done++;
            size = done;
        }

        private void loseOldest() {
            for (int i = 1; i < MOST_CHANGES; i++) {
                numbers[i - 1] = numbers[i];
                whats[i - 1] = whats[i];
                before[i - 1] = before[i];
                behind[i - 1] = behind[i];
            }
            done = MOST_CHANGES - 1;
        }

        int takeBack() {
            if (done <= 0) {
                return STATE;
            }
            done--;
            town.setNumber(numbers[done], whats[done], before[done]);
            return done;
        }

        int doAgain() {
            if (done >= size) {
                return STATE;
            }
            town.setNumber(numbers[done], whats[done], behind[done]);
            done++;
            return size - done;
        }
    }

    /** What deeds can change, as it once was. */
    private static final class Image {
        private final int[] place = new int[MOST_PEOPLE];
        private final int[] boots = new int[MOST_PEOPLE];
        private final int[] led = new int[LED];
        private int people;
        private int promises;
        private int forgot;
        private int gone;
        private int day;
        private boolean taken = false;

        void take(Town town) {
            taken = true;
            people = town.people;
            promises = town.promises;
            forgot = town.forgot;
            gone = town.gone;
            day = town.day;
            copy(town.place, place, MOST_PEOPLE);
            copy(town.boots, boots, MOST_PEOPLE);
            copy(town.led, led, LED);
        }

        void layBack(Town town) {
            // Who and what came since is not in it and stays as it is.
            int old = (1 << promises) - 1;
            town.forgot = town.forgot & ~old | forgot & old;
            town.gone = town.gone & ~old | gone & old;
            town.day = day;
            copy(place, town.place, people);
            copy(boots, town.boots, people);
            copy(led, town.led, LED);
        }

        private static void copy(int[] source, int[] target, int n) {
            for (int i = 0; i < n && i < source.length && i < target.length; i++) {
                target[i] = source[i];
            }
        }
    }

    /** Nothing, a body, or a row; the row's elements are made once and used again. */
    private static final class Shelf {
        private static final int NONE = -1;

        private final long[] elements = new long[MOST_ELEMENTS];
        private int body = NONE;
        private int sort = NONE;
        private int length = 0;

        boolean isEmpty() {
            return body == NONE && sort == NONE;
        }

        void holdBody(int number) {
            body = number;
            sort = NONE;
            length = 0;
        }

        void holdRow(int ofSort, int n) {
            body = NONE;
            sort = ofSort;
            length = Math.max(0, Math.min(MOST_ELEMENTS, n));
            for (int i = 0; i < length; i++) {
                elements[i] = 0;
            }
        }

        /** 0, if it holds a row of bytes. */
        int refusalAsBytes() {
            if (isEmpty()) {
                return MISSING;
            }
            return sort == BYTES ? 0 : OTHER_KIND;
        }

        /** 0, if it holds a row with an element i. */
        int refusalOfElement(int i) {
            if (isEmpty()) {
                return MISSING;
            }
            if (sort == NONE) {
                return OTHER_KIND;
            }
            return i >= 0 && i < length ? 0 : NO_SUCH_PLACE;
        }

        int number(int i) {
            return i >= 0 && i < length ? (int) elements[i] : BAD;
        }

        /** Whether five elements stand behind so many fives from i on. */
        boolean hasFive(int i, int fives) {
            return i >= 0 && i < length && i + FIVE * fives + FIVE <= length;
        }

        /** How many steps it tells, if it is taken for a route. */
        int steps() {
            int n = 0;
            while (n < length && n < MOST_STEPS && elements[n] >= 0 && elements[n] < WAYS) {
                n++;
            }
            return n;
        }

        void setElement(int i, long v) {
            if (i >= 0 && i < length) {
                elements[i] = narrowed(v);
            }
        }

        private long narrowed(long v) {
            switch (sort) {
                case BYTES:
                    return (byte) v;
                case SHORTS:
                    return (short) v;
                case INTS:
                    return (int) v;
                case LONGS:
                    return v;
                default:
                    return v != 0 ? 1 : 0;
            }
        }

        int takeFrom(Shelf source, int i, int j, int n) {
            if (isEmpty() || source.isEmpty()) {
                return MISSING;
            }
            if (sort == NONE || sort != source.sort) {
                return OTHER_KIND;
            }
            if (!source.hasPart(i, n) || !hasPart(j, n)) {
                return NO_SUCH_PLACE;
            }
            System.arraycopy(source.elements, i, elements, j, n);
            return n;
        }

        private boolean hasPart(int i, int n) {
            return i >= 0 && n >= 0 && i <= length && n <= length - i;
        }
    }

    /** Bodies of kinds, and their acts, which come from the kinds above where a kind has none of its own. */
    private static final class Bodies {
        private static final int KINDS = 8, ACTS = 4, MOST_BODIES = 50, MOST_TRACED = 24, DEEPEST = 30;
        private static final int HOLDS = 0, PULLS = 1, FREES = 2, TELLS = 3;
        private static final int[] ABOVE = {-1, 0, 0, 2, 1, 3, 0, 6};
        /** The bodies of acts by kind: holds, pulls, frees, tells; 0: it has none. */
        private static final int[] OWN = {
            1, 10, 11, 2,
            20, 0, 0, 0,
            0, 30, 0, 0,
            0, 41, 40, 0,
            0, 0, 0, 50,
            0, 0, 60, 61,
            70, 0, 0, 0,
            81, 80, 0, 0,
        };

        private final int[] kinds = new int[MOST_BODIES];
        private final int[] trace = new int[MOST_TRACED];
        private int kept = 0;
        private int ran = 0;
        private int self = 0;

        int add(int kind) {
            if (kept >= MOST_BODIES) {
                return FULL;
            }
            kinds[kept] = kind;
            kept++;
            return kept - 1;
        }

        boolean has(int body) {
            return body >= 0 && body < kept;
        }

        int kindOf(int body) {
            return has(body) ? kinds[body] : -1;
        }

        boolean isUnder(int kind, int upper) {
            int k = kind;
            for (int i = 0; i < KINDS && isKind(k); i++) {
                if (k == upper) {
                    return true;
                }
                k = ABOVE[k];
            }
            return false;
        }

        int traced(int i) {
            return i >= 0 && i < ran && i < MOST_TRACED ? trace[i] : BAD;
        }

        int perform(int body, int act, int x) {
            ran = 0;
            if (!has(body) || act < 0 || act >= ACTS) {
                return 0;
            }
            self = body;
            return run(kinds[body], act, x, 0);
        }

        private int own(int act, int x, int depth) {
            return run(kindOf(self), act, x, depth);
        }

        private int run(int kind, int act, int x, int depth) {
            int k = kind;
            for (int i = 0; i < KINDS && isKind(k) && OWN[k * ACTS + act] == 0; i++) {
                k = ABOVE[k];
            }
            if (!isKind(k) || depth > DEEPEST) {
                return 0;
            }
            int number = OWN[k * ACTS + act];
            if (ran < MOST_TRACED) {
                trace[ran] = number;
            }
            ran++;
            return workedOut(number, ABOVE[k], x, depth + 1);
        }

        private int workedOut(int number, int above, int x, int depth) {
            switch (number) {
                case 1:
                    return x + self;
                case 2:
                    return own(PULLS, x, depth) - own(FREES, 1, depth);
                case 10:
                    return own(HOLDS, x, depth) * 2;
                case 11:
                    return x ^ self;
                case 20:
                    return run(above, HOLDS, x, depth) + 3;
                case 30:
                    return -run(above, PULLS, x, depth);
                case 40:
                    return run(above, FREES, x, depth) * 3;
                case 41:
                    return run(above, PULLS, x + 1, depth);
                case 50:
                    return run(above, TELLS, x, depth) ^ 5;
                case 60:
                    return run(above, FREES, x, depth) - own(HOLDS, 2, depth);
                case 61:
                    return run(above, TELLS, x, depth) + 1;
                case 70:
                    return run(above, HOLDS, x, depth) * 2;
                case 80:
                    return run(above, PULLS, x, depth) + own(FREES, 2, depth);
                case 81:
                    return run(above, HOLDS, x, depth) - 1;
                default:
                    return 0;
            }
        }
    }
}
