import java.util.ArrayList;
import java.util.Arrays;
import java.util.List;
import java.util.TreeSet;

/**
 * The document told once more, as plainly as can be: each thought is tried out on a copy of the town,
 * every choice is gone through. Nothing here is shared with the class under test.
 */
public final class PlainTown {
    private static final int BAD = -1, NOT = -2, FULL = -3, STATE = -5;

    private static final class Person {
        int place;
        int boots = 3;
    }

    private static final class Vow {
        int by;
        int to;
        int at;
        int weight;
        int from;
        int till;
        int forgot;
        int gone;
    }

    /** All that a thought may need a copy of. */
    private static final class World {
        List<Person> people = new ArrayList<>();
        List<Vow> vows = new ArrayList<>();
        int holds = 3;
        int day = 0;
        String law = null;

        World copy() {
            World w = new World();
            for (Person p : people) {
                Person q = new Person();
                q.place = p.place;
                q.boots = p.boots;
                w.people.add(q);
            }
            for (Vow v : vows) {
                Vow u = new Vow();
                u.by = v.by;
                u.to = v.to;
                u.at = v.at;
                u.weight = v.weight;
                u.from = v.from;
                u.till = v.till;
                u.forgot = v.forgot;
                u.gone = v.gone;
                w.vows.add(u);
            }
            w.holds = holds;
            w.day = day;
            w.law = law;
            return w;
        }

        boolean isOn(Vow v) {
            return v.gone == 0 && v.from <= day && day <= v.till;
        }

        int hard(Vow v) {
            int left = Math.max(0, v.till - day);
            int worth;
            if (law == null) {
                worth = v.weight / 2;
                if (left < 3) {
                    worth += 1;
                }
                if (v.forgot == 1) {
                    worth -= 3;
                }
            } else {
                int others = 0;
                for (Vow u : vows) {
                    if (u != v && u.by == v.by && u.at == v.at && isOn(u)) {
                        others++;
                    }
                }
                worth = PlainLaw.worth(law, v.weight, left, people.get(v.by).boots, others, v.forgot, day);
            }
            return worth < 0 ? 0 : worth > 9 ? 9 : worth;
        }

        boolean holds(Vow v) {
            return isOn(v) && people.get(v.by).place == v.at && hard(v) >= holds;
        }

        boolean isHeld(int one) {
            for (Vow v : vows) {
                if (v.by == one && holds(v)) {
                    return true;
                }
            }
            return false;
        }

        void walk(int one, int way) {
            if (!isHeld(one)) {
                people.get(one).place = next(people.get(one).place, way);
            }
        }

        void passDay() {
            if (day < 99) {
                day++;
            }
        }

        int keptNow(int one) {
            int bits = 0;
            for (int i = 0; i < vows.size(); i++) {
                Vow v = vows.get(i);
                if (v.by == one && isOn(v) && v.at == people.get(one).place) {
                    bits |= 1 << i;
                }
            }
            return bits;
        }

        int weight(int bits) {
            int sum = 0;
            for (int i = 0; i < vows.size(); i++) {
                if ((bits & 1 << i) != 0) {
                    sum += vows.get(i).weight;
                }
            }
            return sum;
        }
    }

    private static int next(int place, int way) {
        int x = place % 5;
        int y = place / 5;
        int nx = x + (way == 1 ? 1 : way == 3 ? -1 : 0);
        int ny = y + (way == 2 ? 1 : way == 0 ? -1 : 0);
        return nx < 0 || nx > 4 || ny < 0 || ny > 4 ? place : 5 * ny + nx;
    }

    private static int apart(int a, int b) {
        return Math.abs(a % 5 - b % 5) + Math.abs(a / 5 - b / 5);
    }

    private World now = new World();
    private String tape = "";
    private int[] led = new int[6];
    private World image = null;
    private int[] imageLed = null;
    private final List<int[]> done = new ArrayList<>();
    private final List<int[]> undone = new ArrayList<>();
    private final List<Integer> bodies = new ArrayList<>();
    private final List<Integer> trace = new ArrayList<>();
    /** null, an Integer (a body), or byte[], short[], int[], long[], boolean[]. */
    private final Object[] shelves = new Object[6];

    public PlainTown() {
    }

    private boolean isPerson(int one) {
        return one >= 0 && one < now.people.size();
    }

    private boolean isVow(int p) {
        return p >= 0 && p < now.vows.size();
    }

    private static boolean in(int v, int least, int most) {
        return v >= least && v <= most;
    }

    public int person(int place) {
        if (!in(place, 0, 24)) {
            return BAD;
        }
        if (now.people.size() == 6) {
            return FULL;
        }
        Person p = new Person();
        p.place = place;
        now.people.add(p);
        return now.people.size() - 1;
    }

    private boolean may(int by, int to, int at, int weight, int till) {
        return isPerson(by) && isPerson(to) && by != to && in(at, 0, 24) && in(weight, 0, 9) && in(till, 0, 99);
    }

    private void vow(int by, int to, int at, int weight, int till) {
        Vow v = new Vow();
        v.by = by;
        v.to = to;
        v.at = at;
        v.weight = weight;
        v.from = now.day;
        v.till = till;
        now.vows.add(v);
    }

    public int promise(int bt, int wt) {
        if (!in(bt, 0, 55) || !in(wt, 0, 999) || !isPerson(bt / 10)) {
            return BAD;
        }
        int at = now.people.get(bt / 10).place;
        if (!may(bt / 10, bt % 10, at, wt / 100, wt % 100)) {
            return BAD;
        }
        if (now.vows.size() == 12) {
            return FULL;
        }
        vow(bt / 10, bt % 10, at, wt / 100, wt % 100);
        led[0]++;
        return now.vows.size() - 1;
    }

    public int promises(int shelf, int i, int n) {
        if (!in(shelf, 0, 5) || !in(n, 1, 12)) {
            return BAD;
        }
        if (shelves[shelf] == null) {
            return 0;
        }
        if (!(shelves[shelf] instanceof byte[] row)) {
            return -12;
        }
        int came = 0;
        for (long at = i; came < n && at >= 0 && at + 4 < row.length && now.vows.size() < 12; at += 5) {
            int k = (int) at;
            if (!may(row[k], row[k + 1], row[k + 2], row[k + 3], row[k + 4])) {
                break;
            }
            vow(row[k], row[k + 1], row[k + 2], row[k + 3], row[k + 4]);
            came++;
        }
        return came;
    }

    private boolean hasNumber(int number, int what) {
        if (what < 2) {
            return isPerson(number);
        }
        return what == 8 || what == 9 ? number == 0 : isVow(number);
    }

    private void set(int number, int what, int v) {
        switch (what) {
            case 0 -> now.people.get(number).place = v;
            case 1 -> now.people.get(number).boots = v;
            case 2 -> now.vows.get(number).at = v;
            case 3 -> now.vows.get(number).weight = v;
            case 4 -> now.vows.get(number).from = v;
            case 5 -> now.vows.get(number).till = v;
            case 6 -> now.vows.get(number).forgot = v;
            case 7 -> now.vows.get(number).gone = v;
            case 8 -> now.holds = v;
            default -> now.day = v;
        }
    }

    public int mend(int number, int what, int v) {
        if (!in(what, 0, 9) || !hasNumber(number, what)) {
            return BAD;
        }
        boolean good = switch (what) {
            case 0, 2 -> in(v, 0, 24);
            case 1, 3 -> in(v, 0, 9);
            case 4, 5, 9 -> in(v, 0, 99);
            case 6, 7 -> in(v, 0, 1);
            default -> in(v, 1, 9);
        };
        if (!good) {
            return BAD;
        }
        int was = of(number, what);
        if (was == v) {
            return was;
        }
        set(number, what, v);
        done.add(new int[] {number, what, was, v});
        undone.clear();
        if (done.size() > 40) {
            done.remove(0);
        }
        return was;
    }

    public int of(int number, int what) {
        if (!in(what, 0, 11) || !hasNumber(number, what)) {
            return BAD;
        }
        return switch (what) {
            case 0 -> now.people.get(number).place;
            case 1 -> now.people.get(number).boots;
            case 2 -> now.vows.get(number).at;
            case 3 -> now.vows.get(number).weight;
            case 4 -> now.vows.get(number).from;
            case 5 -> now.vows.get(number).till;
            case 6 -> now.vows.get(number).forgot;
            case 7 -> now.vows.get(number).gone;
            case 8 -> now.holds;
            case 9 -> now.day;
            case 10 -> now.vows.get(number).by;
            default -> now.vows.get(number).to;
        };
    }

    public int feed(int letter) {
        if (!in(letter, 0, 255)) {
            return BAD;
        }
        if (tape.length() == 120) {
            return FULL;
        }
        tape += (char) letter;
        return tape.length();
    }

    public int law() {
        int fault = PlainLaw.fault(tape);
        if (fault < 0) {
            now.law = tape;
        }
        tape = "";
        return fault < 0 ? 1 : -100 - fault;
    }

    public int hard(int promise) {
        return isVow(promise) ? now.hard(now.vows.get(promise)) : BAD;
    }

    /** 0, or the refusal of a shelf from which a row of bytes is wanted. */
    private int refusal(int shelf) {
        return shelves[shelf] == null ? -11 : shelves[shelf] instanceof byte[] ? 0 : -12;
    }

    private static List<Integer> steps(byte[] row) {
        List<Integer> steps = new ArrayList<>();
        for (byte b : row) {
            if (b < 0 || b > 4 || steps.size() == 30) {
                break;
            }
            steps.add((int) b);
        }
        return steps;
    }

    /** Place, days held, weight kept, which, behind some steps. */
    private int[] walked(int one, List<Integer> steps) {
        World w = now.copy();
        int held = 0;
        int kept = w.keptNow(one);
        for (int way : steps) {
            if (w.isHeld(one)) {
                held++;
            }
            w.walk(one, way);
            w.passDay();
            kept |= w.keptNow(one);
        }
        return new int[] {w.people.get(one).place, held, w.weight(kept), kept};
    }

    public int route(int shelf, int n, int one, int what) {
        if (!in(shelf, 0, 5) || !in(n, 0, 30) || !isPerson(one) || !in(what, 0, 3)) {
            return BAD;
        }
        if (refusal(shelf) != 0) {
            return refusal(shelf);
        }
        List<Integer> steps = steps((byte[]) shelves[shelf]);
        return walked(one, steps.subList(0, Math.min(n, steps.size())))[what];
    }

    public int held(int one, int what) {
        if (!isPerson(one) || !in(what, 0, 1)) {
            return BAD;
        }
        int many = 0;
        int hardest = 0;
        for (Vow v : now.vows) {
            if (v.by == one && now.isOn(v) && v.at == now.people.get(one).place) {
                hardest = Math.max(hardest, now.hard(v));
                many += now.holds(v) ? 1 : 0;
            }
        }
        return what == 0 ? many : hardest;
    }

    public int best(int one, int t, int k) {
        if (!isPerson(one) || !in(t, 0, 4) || !in(k, -1, t - 1)) {
            return BAD;
        }
        int all = 1;
        for (int i = 0; i < t; i++) {
            all *= 5;
        }
        int most = -1;
        List<Integer> bestSteps = null;
        for (int code = 0; code < all; code++) {
            List<Integer> steps = new ArrayList<>();
            int rest = code;
            for (int i = 0; i < t; i++) {
                steps.add(0, rest % 5);
                rest /= 5;
            }
            int weight = walked(one, steps)[2];
            if (weight > most) {
                most = weight;
                bestSteps = steps;
            }
        }
        return k < 0 ? most : bestSteps.get(k);
    }

    /** Where one who is at one of these places on a day (from today on) can be a day later. */
    private TreeSet<Integer> later(int one, TreeSet<Integer> places, int days) {
        World w = now.copy();
        for (int i = 0; i < days; i++) {
            w.passDay();
        }
        TreeSet<Integer> next = new TreeSet<>();
        for (int place : places) {
            for (int way = 0; way < 5; way++) {
                w.people.get(one).place = place;
                w.walk(one, way);
                next.add(w.people.get(one).place);
            }
        }
        return next;
    }

    public int soonest(int one, int place) {
        if (!isPerson(one) || !in(place, 0, 24)) {
            return BAD;
        }
        TreeSet<Integer> places = new TreeSet<>();
        places.add(now.people.get(one).place);
        for (int days = 0; days <= 20; days++) {
            if (places.contains(place)) {
                return days;
            }
            places = later(one, places, days);
        }
        return NOT;
    }

    public int free(int one) {
        if (!isPerson(one)) {
            return BAD;
        }
        int many = 0;
        World w = now.copy();
        for (int place = 0; place < 25; place++) {
            w.people.get(one).place = place;
            many += w.isHeld(one) ? 0 : 1;
        }
        return many;
    }

    public int words(int one, int what) {
        if (!isPerson(one) || !in(what, 0, 1)) {
            return BAD;
        }
        int best = -1;
        for (int bits = 0; bits < 1 << now.vows.size(); bits++) {
            if (best >= 0 && Integer.bitCount(bits) >= Integer.bitCount(best)) {
                continue;
            }
            World w = now.copy();
            for (int i = 0; i < w.vows.size(); i++) {
                w.vows.get(i).gone |= bits >> i & 1;
            }
            if (!w.isHeld(one)) {
                best = bits;
            }
        }
        return what == 0 ? Integer.bitCount(best) : best;
    }

    public int all(int what) {
        if (!in(what, 0, 1)) {
            return BAD;
        }
        int best = -1;
        for (int bits = 0; bits < 1 << now.people.size(); bits++) {
            World w = now.copy();
            for (Vow v : w.vows) {
                v.gone |= bits >> v.to & 1;
            }
            boolean free = true;
            for (int one = 0; one < w.people.size(); one++) {
                free &= !w.isHeld(one);
            }
            if (free && (best < 0 || Integer.bitCount(bits) < Integer.bitCount(best))) {
                best = bits;
            }
        }
        return what == 0 ? Integer.bitCount(best) : best;
    }

    public int ring() {
        int least = 99;
        for (int one = 0; one < now.people.size(); one++) {
            least = Math.min(least, ringFrom(one, one, new ArrayList<>(List.of(one))));
        }
        return least == 99 ? NOT : least;
    }

    private int ringFrom(int first, int last, List<Integer> chain) {
        int least = 99;
        for (Vow v : now.vows) {
            if (v.by != last || !now.holds(v)) {
                continue;
            }
            if (v.to == first) {
                least = Math.min(least, chain.size());
            } else if (!chain.contains(v.to)) {
                chain.add(v.to);
                least = Math.min(least, ringFrom(first, v.to, chain));
                chain.remove(chain.size() - 1);
            }
        }
        return least;
    }

    public int breaks(int one, int what) {
        if (!isPerson(one) || !in(what, 0, 1)) {
            return BAD;
        }
        int there = now.keptNow(one);
        int best = -1;
        for (int bits = 0; bits < 1 << now.vows.size(); bits++) {
            int many = Integer.bitCount(bits);
            if ((bits & ~there) != 0 || many > now.people.get(one).boots) {
                continue;
            }
            World w = now.copy();
            for (int i = 0; i < w.vows.size(); i++) {
                w.vows.get(i).gone |= bits >> i & 1;
            }
            w.people.get(one).boots -= many;
            if (!w.isHeld(one) && (best < 0 || now.weight(bits) < now.weight(best))) {
                best = bits;
            }
        }
        return best < 0 ? NOT : what == 0 ? now.weight(best) : best;
    }

    public int judge(int ss, int one) {
        if (!in(ss, 0, 55) || ss % 10 > 5 || !isPerson(one)) {
            return BAD;
        }
        int refused = refusal(ss / 10) != 0 ? refusal(ss / 10) : refusal(ss % 10);
        if (refused != 0) {
            return refused;
        }
        List<Integer> steps = steps((byte[]) shelves[ss / 10]);
        byte[] seen = (byte[]) shelves[ss % 10];
        for (int i = 0; i < seen.length && i < 31; i++) {
            if (i > steps.size()) {
                return i;
            }
            if (seen[i] != 99 && seen[i] != walked(one, steps.subList(0, i))[0]) {
                return i;
            }
        }
        return NOT;
    }

    private boolean possible(byte[] seen, int one) {
        TreeSet<Integer> places = new TreeSet<>();
        places.add(now.people.get(one).place);
        for (int i = 0; i < seen.length && i < 31; i++) {
            if (i > 0) {
                places = later(one, places, i - 1);
            }
            if (seen[i] != 99) {
                if (!places.contains((int) seen[i])) {
                    return false;
                }
                places = new TreeSet<>(List.of((int) seen[i]));
            }
        }
        return true;
    }

    public int can(int shelf, int one) {
        if (!in(shelf, 0, 5) || !isPerson(one)) {
            return BAD;
        }
        return refusal(shelf) != 0 ? refusal(shelf) : possible((byte[]) shelves[shelf], one) ? 1 : 0;
    }

    public int who(int shelf) {
        if (!in(shelf, 0, 5)) {
            return BAD;
        }
        if (refusal(shelf) != 0) {
            return refusal(shelf);
        }
        int bits = 0;
        for (int one = 0; one < now.people.size(); one++) {
            bits |= possible((byte[]) shelves[shelf], one) ? 1 << one : 0;
        }
        return bits;
    }

    private int roundFar;
    private List<Integer> roundBest;

    public int feeds(int place, int k) {
        if (!in(place, 0, 24) || k < -1) {
            return BAD;
        }
        TreeSet<Integer> stops = new TreeSet<>();
        for (int one = 0; one < now.people.size(); one++) {
            if (now.isHeld(one)) {
                stops.add(now.people.get(one).place);
            }
        }
        roundFar = Integer.MAX_VALUE;
        orders(place, new ArrayList<>(stops), new ArrayList<>());
        return k < 0 ? roundFar : k < roundBest.size() ? roundBest.get(k) : NOT;
    }

    private void orders(int start, List<Integer> left, List<Integer> order) {
        if (left.isEmpty()) {
            int far = 0;
            int at = start;
            for (int stop : order) {
                far += apart(at, stop);
                at = stop;
            }
            far += apart(at, start);
            if (far < roundFar) {
                roundFar = far;
                roundBest = new ArrayList<>(order);
            }
            return;
        }
        for (int i = 0; i < left.size(); i++) {
            List<Integer> rest = new ArrayList<>(left);
            order.add(rest.remove(i));
            orders(start, rest, order);
            order.remove(order.size() - 1);
        }
    }

    public long odds(int one, int part) {
        if (!isPerson(one) || !in(part, 0, 1)) {
            return Long.MIN_VALUE;
        }
        int there = now.keptNow(one);
        long free = 0;
        long all = 0;
        for (int bits = 0; bits < 1 << now.vows.size(); bits++) {
            if ((bits & ~there) != 0) {
                continue;
            }
            World w = now.copy();
            for (int i = 0; i < w.vows.size(); i++) {
                if ((there >> i & 1) == 1) {
                    w.vows.get(i).forgot = bits >> i & 1;
                }
            }
            all++;
            free += w.isHeld(one) ? 0 : 1;
        }
        long a = all;
        long b = free;
        while (b != 0) {
            long c = a % b;
            a = b;
            b = c;
        }
        return part == 0 ? free / a : all / a;
    }

    public int rued(int one, int t) {
        if (!isPerson(one) || !in(t, 0, 8)) {
            return BAD;
        }
        int bits = 0;
        for (int i = 0; i < now.vows.size(); i++) {
            if (now.vows.get(i).by == one && now.vows.get(i).gone == 0) {
                bits |= 1 << i;
            }
        }
        TreeSet<Integer> places = new TreeSet<>();
        places.add(now.people.get(one).place);
        World w = now.copy();
        for (int days = 0; days <= t; days++) {
            for (int place : places) {
                w.people.get(one).place = place;
                bits &= ~w.keptNow(one);
            }
            places = later(one, places, days);
            w.passDay();
        }
        return bits;
    }

    public int byTurns(int ab, int place, int n, int what) {
        if (!in(ab, 0, 55) || !isPerson(ab / 10) || !isPerson(ab % 10) || ab / 10 == ab % 10
            || !in(place, 0, 24) || !in(n, 1, 5) || !in(what, 0, 1)) {
            return BAD;
        }
        int least = 99;
        int first = -1;
        for (int way : new int[] {4, 0, 1, 2, 3}) {
            World w = now.copy();
            w.walk(ab / 10, way);
            w.passDay();
            int far = playOn(w, ab / 10, ab % 10, place, n - 1, false);
            if (far < least) {
                least = far;
                first = way;
            }
        }
        return what == 0 ? least : first;
    }

    private int playOn(World w, int man, int child, int place, int left, boolean mans) {
        if (left == 0) {
            return apart(w.people.get(man).place, place);
        }
        if (mans) {
            int least = 99;
            for (int way = 0; way < 5; way++) {
                World u = w.copy();
                u.walk(man, way);
                u.passDay();
                least = Math.min(least, playOn(u, man, child, place, left - 1, false));
            }
            return least;
        }
        int most = playOn(w.copy(), man, child, place, left - 1, true);
        for (int i = 0; i < w.vows.size(); i++) {
            if (w.vows.get(i).to == child && w.vows.get(i).forgot == 0) {
                World u = w.copy();
                u.vows.get(i).forgot = 1;
                return Math.max(most, playOn(u, man, child, place, left - 1, true));
            }
        }
        return most;
    }

    public int drawn(int seed, int nm, int one, int place) {
        if (!in(nm, 0, 3040) || !in(nm / 100, 1, 30) || !in(nm % 100, 1, 40) || !isPerson(one) || !in(place, -1, 24)) {
            return BAD;
        }
        int z = seed;
        int held = 0;
        int there = 0;
        for (int year = 0; year < nm / 100; year++) {
            World w = now.copy();
            for (int day = 0; day < nm % 100; day++) {
                z = z * 1103515245 + 12345;
                held += w.isHeld(one) ? 1 : 0;
                w.walk(one, (z >>> 8) % 5);
                w.passDay();
            }
            there += w.people.get(one).place == place ? 1 : 0;
        }
        return place == -1 ? held : there;
    }

    public int step(int one, int way) {
        if (!isPerson(one) || !in(way, 0, 4)) {
            return BAD;
        }
        led[now.isHeld(one) ? 2 : 1]++;
        now.walk(one, way);
        return now.people.get(one).place;
    }

    public int pull(int promise) {
        if (!isVow(promise)) {
            return BAD;
        }
        Vow v = now.vows.get(promise);
        Person p = now.people.get(v.by);
        if (!now.holds(v) || p.boots == 0) {
            return STATE;
        }
        v.gone = 1;
        led[3]++;
        return --p.boots;
    }

    public int letOff(int promise) {
        if (!isVow(promise)) {
            return BAD;
        }
        if (now.vows.get(promise).gone == 1) {
            return STATE;
        }
        now.vows.get(promise).gone = 1;
        led[4]++;
        return 1;
    }

    public int forget(int promise) {
        if (!isVow(promise)) {
            return BAD;
        }
        if (now.vows.get(promise).forgot == 1) {
            return STATE;
        }
        now.vows.get(promise).forgot = 1;
        return 1;
    }

    public int day() {
        now.passDay();
        led[5]++;
        return now.day;
    }

    public int led(int what) {
        return in(what, 0, 5) ? led[what] : BAD;
    }

    public int image() {
        image = now.copy();
        imageLed = led.clone();
        return led[5];
    }

    public int back() {
        if (image == null) {
            return STATE;
        }
        for (int i = 0; i < image.people.size(); i++) {
            now.people.get(i).place = image.people.get(i).place;
            now.people.get(i).boots = image.people.get(i).boots;
        }
        for (int i = 0; i < image.vows.size(); i++) {
            now.vows.get(i).forgot = image.vows.get(i).forgot;
            now.vows.get(i).gone = image.vows.get(i).gone;
        }
        now.day = image.day;
        led = imageLed.clone();
        return led[5];
    }

    public int undo() {
        if (done.isEmpty()) {
            return STATE;
        }
        int[] change = done.remove(done.size() - 1);
        undone.add(change);
        set(change[0], change[1], change[2]);
        return done.size();
    }

    public int redo() {
        if (undone.isEmpty()) {
            return STATE;
        }
        int[] change = undone.remove(undone.size() - 1);
        done.add(change);
        set(change[0], change[1], change[3]);
        return undone.size();
    }

    public int body(int kind) {
        if (!in(kind, 0, 7)) {
            return BAD;
        }
        if (bodies.size() == 50) {
            return FULL;
        }
        bodies.add(kind);
        return bodies.size() - 1;
    }

    public int act(int body, int act, int x) {
        trace.clear();
        if (!in(body, 0, bodies.size() - 1) || !in(act, 0, 3)) {
            return 0;
        }
        PlainBodies.Tack tack = PlainBodies.make(bodies.get(body), body, trace);
        return switch (act) {
            case 0 -> tack.holds(x);
            case 1 -> tack.pulls(x);
            case 2 -> tack.frees(x);
            default -> tack.tells(x);
        };
    }

    public int trace(int i) {
        return in(i, 0, Math.min(24, trace.size()) - 1) ? trace.get(i) : BAD;
    }

    public int keep(int shelf, int body) {
        if (!in(shelf, 0, 5) || !in(body, -1, bodies.size() - 1)) {
            return BAD;
        }
        shelves[shelf] = body < 0 ? null : Integer.valueOf(body);
        return 1;
    }

    public int row(int shelf, int sort, int n) {
        if (!in(shelf, 0, 5) || !in(sort, 0, 4) || n > 60) {
            return BAD;
        }
        if (n < 0) {
            return -14;
        }
        shelves[shelf] = switch (sort) {
            case 0 -> new byte[n];
            case 1 -> new short[n];
            case 2 -> new int[n];
            case 3 -> new long[n];
            default -> new boolean[n];
        };
        return 1;
    }

    public int put(int shelf, int i, long v) {
        if (!in(shelf, 0, 5)) {
            return BAD;
        }
        Object o = shelves[shelf];
        if (o == null) {
            return -11;
        }
        if (o instanceof Integer) {
            return -12;
        }
        if (!in(i, 0, java.lang.reflect.Array.getLength(o) - 1)) {
            return -13;
        }
        if (o instanceof byte[] row) {
            row[i] = (byte) v;
        } else if (o instanceof short[] row) {
            row[i] = (short) v;
        } else if (o instanceof int[] row) {
            row[i] = (int) v;
        } else if (o instanceof long[] row) {
            row[i] = v;
        } else {
            ((boolean[]) o)[i] = v != 0;
        }
        return 1;
    }

    public long element(int shelf, int i) {
        if (!in(shelf, 0, 5) || shelves[shelf] == null || shelves[shelf] instanceof Integer
            || !in(i, 0, java.lang.reflect.Array.getLength(shelves[shelf]) - 1)) {
            return Long.MIN_VALUE;
        }
        if (shelves[shelf] instanceof boolean[] row) {
            return row[i] ? 1 : 0;
        }
        return java.lang.reflect.Array.getLong(shelves[shelf], i);
    }

    public int shift(int shelf, int i, int other, int j, int n) {
        if (!in(shelf, 0, 5) || !in(other, 0, 5)) {
            return BAD;
        }
        Object a = shelves[shelf];
        Object b = shelves[other];
        if (a == null || b == null) {
            return -11;
        }
        if (a instanceof Integer || a.getClass() != b.getClass()) {
            return -12;
        }
        try {
            System.arraycopy(a, i, b, j, n);
        } catch (IndexOutOfBoundsException e) {
            return -13;
        }
        return n;
    }

    public int taken(int shelf, int k) {
        if (!in(shelf, 0, 5) || !in(k, 0, 7)) {
            return BAD;
        }
        if (shelves[shelf] == null) {
            return -11;
        }
        if (!(shelves[shelf] instanceof Integer body)) {
            return -12;
        }
        Class<?> wanted = PlainBodies.make(k, 0, trace).getClass();
        int kind = bodies.get(body);
        return wanted.isInstance(PlainBodies.make(kind, 0, trace)) ? kind : -12;
    }

    public int count(int what) {
        return switch (what) {
            case 0 -> now.people.size();
            case 1 -> now.vows.size();
            case 2 -> tape.length();
            case 3 -> done.size();
            case 4 -> bodies.size();
            case 5 -> trace.size();
            default -> BAD;
        };
    }

    @Override
    public String toString() {
        return Arrays.toString(led);
    }
}
