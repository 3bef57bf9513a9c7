import com.sun.management.ThreadMXBean;
import java.lang.management.ManagementFactory;

/** All calls of one run live in one room: 600,000 objects and arrays, 7.3 million fields and elements. */
public final class RoomTest {
    private static final int CALLS = 512;
    private static final long WORD = 4;
    private static final long MOST_WORDS = 7300000;

    public static void main(String[] args) {
        ThreadMXBean bean = (ThreadMXBean) ManagementFactory.getThreadMXBean();
        run(bean);
        long bytes = run(bean);
        System.out.println("bytes made in a run of the dearest calls: " + bytes);
        Check.due("a tenth of the room is enough", bytes < MOST_WORDS * WORD / 10, true);
        Check.finish();
    }

    private static long run(ThreadMXBean bean) {
        long before = bean.getCurrentThreadAllocatedBytes();
        NurseryHeap heap = new NurseryHeap();
        heap.feed(0x68653634, 0x73333261, 0x356F3132, 0x38000000, 0);
        int sum = heap.text(0);
        for (int i = 3; i < CALLS; i++) {
            switch (i % 8) {
                case 0: sum += heap.until(heap.most(5)); break;
                case 1: sum += heap.would(true, 0) + heap.would(false, 1); break;
                case 2: sum += heap.path(heap.most(5), -1); break;
                case 3: sum += heap.image() + heap.back(); break;
                default: sum += heap.years(40, i);
            }
        }
        long after = bean.getCurrentThreadAllocatedBytes();
        Check.due("a run that did something", sum > 0, true);
        return after - before;
    }
}
