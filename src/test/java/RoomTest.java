import com.sun.management.ThreadMXBean;
import java.lang.management.ManagementFactory;

/** What a run makes is kept small: a new object has some 30 arrays, and a call makes nothing where nothing comes. */
public final class RoomTest {
    private static final ThreadMXBean MEMORY = (ThreadMXBean) ManagementFactory.getThreadMXBean();
    private static final Ask[] QUESTIONS = {
        (x, a) -> x.boatTold(4), (x, a) -> x.ruleTold(a[0], 3), (x, a) -> x.home(a[0], 7, 1), (x, a) -> x.mean(a[0], 0, 0),
        (x, a) -> x.told(a[0], 5, 3, 1), (x, a) -> x.ends(a[0], 2), (x, a) -> x.best(1), (x, a) -> x.rations(a[0]),
        (x, a) -> x.take(a[0], 7), (x, a) -> x.takes(a[0]), (x, a) -> x.hid(a[0], 2, 9, 0), (x, a) -> x.judge(a[0], 1, 3),
        (x, a) -> x.until(a[0], 1), (x, a) -> x.taken(8, a[0]), (x, a) -> x.man(5, 5), (x, a) -> x.set(a[0], 0, 40),
        (x, a) -> x.boat(1, 90), (x, a) -> x.day(a[0], 1, 4), (x, a) -> x.rule(0, 0, 0), (x, a) -> x.feed(a[0], 8),
        (x, a) -> x.text(), (x, a) -> x.force(a[0] % 6), (x, a) -> x.image(), (x, a) -> x.back(),
        (x, a) -> x.sheet(2, 1, 16), (x, a) -> x.cell(2, a[0], 9), (x, a) -> x.copy(0, 0, 0, 1, 30), (x, a) -> x.men(2, 1, 0, 8)};
    private static final int OBJECTS = 64;
    private static final LastKeg[] KEPT = new LastKeg[OBJECTS];

    private RoomTest() {
    }

    public static void main(String[] args) {
        Check.holds("what is made can be told", MEMORY.isThreadAllocatedMemorySupported());
        questions(State.FULL.make());
        // The first time the machine makes what it needs itself.
        long made = questions(State.FULL.make());
        Check.holds("12: on a full object no call makes anything, but " + made + " bytes", made == 0);
        objects();
        long each = objects() / OBJECTS;
        // Some 30 arrays of some 1,300 elements of 4 bytes, and what the machine keeps of each.
        Check.holds("12: a new object has " + each + " bytes", each > 0 && each < 10000);
        Check.finish();
    }

    /** The bytes that all of them make, eight times each. */
    private static long questions(LastKeg x) {
        int[][] rows = {{0}, {1}, {2}, {3}, {4}, {5}, {6}, {7}};
        long before = MEMORY.getCurrentThreadAllocatedBytes();
        for (int i = 0; i < QUESTIONS.length; i++) {
            for (int k = 0; k < rows.length; k++) {
                QUESTIONS[i].of(x, rows[k]);
            }
        }
        return MEMORY.getCurrentThreadAllocatedBytes() - before;
    }

    private static long objects() {
        long before = MEMORY.getCurrentThreadAllocatedBytes();
        for (int i = 0; i < OBJECTS; i++) {
            KEPT[i] = new LastKeg();
        }
        return MEMORY.getCurrentThreadAllocatedBytes() - before;
    }
}
