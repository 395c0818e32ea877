import com.sun.management.ThreadMXBean;
import java.lang.management.ManagementFactory;

/** All calls of a run live in one room: an object is small, and a call makes nothing. */
public final class RoomTest {
    private static final long OBJECT_BYTES = 6000;
    private static long sink = 0;

    public static void main(String[] args) {
        ThreadMXBean threads = (ThreadMXBean) ManagementFactory.getThreadMXBean();
        LiftedSystems first = Tables.of(Tables.row(9, 1, 2, 3, 50), Tables.row(4, 5, 6, 7, -60), Tables.row(8, 9, 1, -2, 70), Tables.row(3, -4, 5, 6, 80));
        everyCall(first);
        long before = threads.getCurrentThreadAllocatedBytes();
        LiftedSystems x = new LiftedSystems();
        long made = threads.getCurrentThreadAllocatedBytes() - before;
        Check.holds("an object takes " + made + " bytes", made > 0 && made < OBJECT_BYTES);
        x.seed(4711);
        x.size(4);
        x.drift(12);
        before = threads.getCurrentThreadAllocatedBytes();
        for (int time = 0; time < 10; time++) {
            everyCall(x);
        }
        made = threads.getCurrentThreadAllocatedBytes() - before;
        Check.due("bytes that the calls make", made, 0);
        Check.holds("answers were used", sink != 0);
        Check.end();
    }

    private static void everyCall(LiftedSystems x) {
        for (int what = 0; what <= 18; what++) {
            sink += x.told(what);
        }
        sink += x.at(0, 0) + x.cleared(0, 0, 0) + x.solution(0, 0) + x.nothing(0);
        sink += x.back(0, 0) + x.digit(0, 99) + x.rest(0, 100) + x.guess(0, 9, 0);
        sink += x.near(0) + x.shortly(0) + x.cut(0);
        sink += x.put(0, 0, 5) + x.side(0, 5) + x.swap(0, 1) + x.mix(0, 1, 1) + x.turn() + x.prime(24) + x.drift(12);
        sink += x.undo(3) + x.write(0, 99, 5) + x.seed(77) + x.keep(0) + x.goBack(0) + x.told(16) + x.tear() + x.size(4) + x.drift(12);
    }
}
