import java.lang.management.ManagementFactory;

/** All memory is made with the object: a run of calls of each sort makes nothing more. */
public final class RoomTest {
    private static final int ROUNDS = 2000;
    private static long sum = 0;

    private RoomTest() {
    }

    public static void main(String[] args) {
        NailedByWord[] towns = new NailedByWord[ROUNDS];
        for (int i = 0; i < ROUNDS; i++) {
            towns[i] = new NailedByWord();
        }
        manyCalls(towns[0]);
        com.sun.management.ThreadMXBean threads = (com.sun.management.ThreadMXBean) ManagementFactory.getThreadMXBean();
        long id = Thread.currentThread().getId();
        long before = threads.getThreadAllocatedBytes(id);
        for (int i = 1; i < ROUNDS; i++) {
            manyCalls(towns[i]);
        }
        long made = threads.getThreadAllocatedBytes(id) - before;
        System.out.println("room: " + made + " bytes for " + (ROUNDS - 1) + " runs (" + sum + ")");
        System.exit(made < 100L * ROUNDS ? 0 : 1);
    }

    private static void manyCalls(NailedByWord x) {
        for (int i = 0; i < 6; i++) {
            sum += x.person(4 * i) + x.body(i);
        }
        for (int i = 0; i < 12; i++) {
            sum += x.promise(1 + i % 2, 999);
        }
        String law = "w>4&!f|o>1?(6+o)*b-d/2;o%3-(-y)";
        for (int i = 0; i < law.length(); i++) {
            sum += x.feed(law.charAt(i));
        }
        sum += x.law() + x.row(0, 0, 60) + x.row(1, 0, 31) + x.keep(2, 0);
        for (int one = 0; one < 6; one++) {
            sum += x.hard(one) + x.route(0, 30, one, 3) + x.held(one, 1) + x.best(one, 4, 2) + x.soonest(one, 9)
                + x.free(one) + x.words(one, 1) + x.breaks(one, 1) + x.judge(1, one) + x.can(1, one)
                + x.odds(one, 1) + x.rued(one, 8) + x.drawn(one, 1010, one, -1) + x.act(one, 3, 9) + x.trace(3);
        }
        sum += x.byTurns(1, 24, 5, 1) + x.all(1) + x.ring() + x.who(1) + x.feeds(9, 3) + x.mend(0, 9, 50)
            + x.step(1, 1) + x.pull(0) + x.letOff(1) + x.forget(2) + x.day() + x.led(3) + x.image() + x.back()
            + x.undo() + x.redo() + x.put(1, 3, 9) + x.element(1, 3) + x.shift(1, 0, 0, 9, 20) + x.taken(2, 0)
            + x.count(3) + x.of(0, 9) + x.promises(0, 0, 12);
    }
}
