import java.lang.management.ManagementFactory;
import com.sun.management.ThreadMXBean;

/** All calls of a run live in one room: calls make nothing but what the first common() or cover() keeps. */
final class RoomTest {
    private static final ThreadMXBean THREADS = (ThreadMXBean) ManagementFactory.getThreadMXBean();

    private static final long IDLE = leastIdle();

    public static void main(String[] args) {
        WithinWords x = Play.with(2, "ab".repeat(20), "ba".repeat(20), "aab".repeat(4), "ab", "", "b".repeat(13));
        x.text(0, 20);
        for (int i = 0; i < 20; i++) {
            x.put(0, i, "((a2b)3(ab)2)2ab(a)2".charAt(i));
        }
        // The Java machine may make something of its own once: the least of some rounds counts.
        long least = Long.MAX_VALUE;
        for (int round = 0; round < 5; round++) {
            long before = bytesMade();
            callAll(x);
            least = Math.min(least, bytesMade() - before - IDLE);
        }
        Check.due("bytes that all calls make", least, 0);
        long before = bytesMade();
        WithinWords y = new WithinWords();
        long made = bytesMade() - before - IDLE;
        Check.holds("a new object is small, it has " + made + " bytes", made < 40000);
        Check.due("y.count(0)", y.count(0), 3);
        Check.end();
    }

    private static long leastIdle() {
        long least = Long.MAX_VALUE;
        for (int round = 0; round < 5; round++) {
            long before = bytesMade();
            least = Math.min(least, bytesMade() - before);
        }
        return least;
    }

    private static long bytesMade() {
        return THREADS.getThreadAllocatedBytes(Thread.currentThread().getId());
    }

    private static void callAll(WithinWords x) {
        x.row(0, 40);
        x.lay(0, 0, 1);
        x.copy(0, 0, 0, 1, 39);
        x.mean(0);
        x.word(7, 0);
        x.fault(0);
        x.tell(7, 0);
        x.join(7, 2, 2);
        x.part(7, 0, 3, 9);
        x.turn(7, 0, 1);
        x.drop(7, 0, 9);
        x.mark(7, 4);
        x.ways(0, 3);
        x.way(0, 3, 0, true);
        x.places(0, 3, false);
        x.judge(0, 3, 0);
        x.bar(0, 3);
        x.inner(0, -9);
        x.rank(0, 2);
        x.byRank(0, 20, 9999, 0);
        x.arches(0);
        x.absent(0, 0);
        x.added(0, 40);
        x.alike(0, 1, 9);
        x.parting(0, 1, 0);
        x.common(11, 0);
        x.cover(11, 0);
        x.both(0, 1);
        x.twins(5, 3, 0);
        x.odds(0, 3);
        x.byChance(3, 20);
        x.count(5);
        x.digest();
        x.size(9);
        x.erase(7);
        x.tear(0);
    }
}
