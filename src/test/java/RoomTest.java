import com.sun.management.ThreadMXBean;
import java.lang.management.ManagementFactory;

/** One room for all calls of a run: an object is made whole by its constructor, and no call makes more. */
public final class RoomTest {
    private static final ThreadMXBean THREADS = (ThreadMXBean) ManagementFactory.getThreadMXBean();

    public static void main(String[] args) {
        LoopsBelow x = new LoopsBelow();
        int sum = calls(x);
        long before = THREADS.getThreadAllocatedBytes(Thread.currentThread().getId());
        long alone = THREADS.getThreadAllocatedBytes(Thread.currentThread().getId()) - before;
        before = THREADS.getThreadAllocatedBytes(Thread.currentThread().getId());
        for (int i = 0; i < 50; i++) {
            sum += calls(x);
        }
        long made = THREADS.getThreadAllocatedBytes(Thread.currentThread().getId()) - before - alone;
        Due.is("bytes made by 50 times all calls", made > 2000 ? made : 0, 0);
        before = THREADS.getThreadAllocatedBytes(Thread.currentThread().getId());
        sum += new LoopsBelow().count(0);
        made = THREADS.getThreadAllocatedBytes(Thread.currentThread().getId()) - before;
        System.out.println("a new object: " + made + " bytes (" + (sum == 0 ? "" : "sum ") + sum + ")");
        Due.is("a new object is small", made > 16000 ? made : 0, 0);
        Due.end();
    }

    /** Every call at least once, right and wrong. */
    private static int calls(LoopsBelow x) {
        int s = x.set(3, 1) + x.set(5, 0) + x.set(9, 0) + x.machine(1) + x.machine(-1);
        for (int i = 0; i < 7; i++) {
            s += x.cloth(10 * i, i);
        }
        for (int what = 0; what < 10; what++) {
            s += x.ofCloth(1, what) + x.count(what);
        }
        s += x.change(0, 0, 5) + x.become(1, 44) + x.as(1, 1) + x.as(1, 2);
        s += x.feed(0x292929742821282bL, 8) + x.text(0) + x.feed(0x2929742821282b74L, 8) + x.text(0);
        s += x.feed(0x6c2d39, 3) + x.text(1) + x.text(5) + x.law(0, 1, 2, 3) + x.law(1, 1, 2, 3);
        s += x.sew(0, 20) + x.deed(2) + x.deed(9) + x.loose(9);
        s += x.after(0, 100) + x.until(0) + x.cure(0, 0) + x.cure(1, 1) + x.alone(2) + x.odds(0, 1);
        s += x.sheet(0, 8, 6) + x.put(0, 0, 1) + x.put(0, 1, -1) + x.canBe(0, 0) + x.canBe(0, 1) + x.tellsMost(0);
        s += x.knobWas(0, 1, 11) + x.row(4, 20, 0) + x.seed(3) + x.voice(5, 3, 1) + x.trace(0) + x.trace(40);
        s += x.move(0, 0, 0, 1, 4) + x.thicks(0) + x.judge(0) + x.image() + x.restore() + x.tell(1) + x.check();
        return s + x.told(1) + x.told(7);
    }
}
