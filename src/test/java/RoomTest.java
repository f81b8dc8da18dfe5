import com.sun.management.ThreadMXBean;
import java.lang.management.ManagementFactory;

/** The room that one run takes: an object, and 512 calls of each kind, make a bounded few things. */
public final class RoomTest {
    private static final long MOST_BYTES = 200_000;

    public static void main(String[] args) {
        ThreadMXBean bean = (ThreadMXBean) ManagementFactory.getThreadMXBean();
        // the first run is for what the machine itself makes
        run();
        long before = bean.getThreadAllocatedBytes(Thread.currentThread().getId());
        int sum = run();
        long bytes = bean.getThreadAllocatedBytes(Thread.currentThread().getId()) - before;
        Check check = new Check();
        System.out.println(bytes + " bytes made in one run (sum " + sum + ")");
        check.due("few bytes", bytes <= MOST_BYTES, true);
        check.end();
    }

    private static int run() {
        MemoryMaker x = new MemoryMaker();
        int sum = 0;
        for (int i = 0; i < 512; i++) {
            sum += x.set(0, 16 << i % 7) + x.set(5, 1 + i % 20) + x.bad(i % 8, i % 3, i & 1) + x.heal(i % 7, i % 3);
            sum += x.write(i % 16, i) + x.read(i % 16) + x.count(14) + x.count(17) + x.view(0, i) + x.view(1, i);
            sum += x.most(i, i) + x.fewest() + x.given(0, false) + x.place(i % 16, 0, 2) + x.shape(4, 20) + x.wished(2);
            sum += x.feed(0x6D757820, 0x343B2020, 0x20202020, 0x20202020, 0x20202020);
            sum += i % 9 == 0 ? x.spec() : i % 9 == 5 ? x.agree() : x.undo();
            sum += x.image(i % 3) ? 1 : 0;
            sum += x.again((i + 1) % 3) ? 1 : 0;
        }
        return sum;
    }
}
