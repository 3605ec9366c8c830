import com.sun.management.ThreadMXBean;
import java.lang.management.ManagementFactory;

/**
 * The dearest run of 512 calls stays within the room of 600,000 objects and 7.3 million fields and
 * elements: an object has 16 bytes at least and an element 1, so 7.3 million bytes are within both.
 */
public final class RoomTest {
    public static void main(String[] args) {
        ThreadMXBean threads = (ThreadMXBean) ManagementFactory.getThreadMXBean();
        long ahead = threads.getThreadAllocatedBytes(Thread.currentThread().getId());
        CordBay bay = new CordBay();
        int calls = 0;
        for (; calls < 24; calls++) {
            bay.module(Kinds.SOURCE, Kinds.DOUBLES);
        }
        bay.table(0, 1);
        for (calls++; calls < 512; calls++) {
            bay.block(16);
        }
        long used = threads.getThreadAllocatedBytes(Thread.currentThread().getId()) - ahead;
        System.out.println("  512 calls made " + used + " bytes of objects");
        Check check = new Check();
        check.due("count(2)", bay.count(2), 512 - 25);
        check.due("the run stays within the room", used < 7300000, true);
        check.end();
    }
}
