import com.sun.management.ThreadMXBean;
import java.lang.management.ManagementFactory;

/** All calls live in one room: behind the constructor and the first image no call makes anything. */
public final class RoomTest {
    private static final int NONE = TimedJoin.NONE;
    private static final int ROUNDS = 10;
    /** Far less than one small object for each of the calls that are counted. */
    private static final long ALLOWED = 8192;

    private final Check check = new Check("RoomTest");
    private final ThreadMXBean meter = (ThreadMXBean) ManagementFactory.getThreadMXBean();
    private long sum;

    public static void main(String[] args) {
        new RoomTest().run();
    }

    private long made() {
        return meter.getThreadAllocatedBytes(Thread.currentThread().getId());
    }

    private void run() {
        TimedJoin x = crowded();
        callAll(x);
        long before = made();
        for (int round = 0; round < ROUNDS; round++) {
            callAll(x);
        }
        long all = made() - before;
        check.due("calls made " + all + " bytes: few enough", all < ALLOWED, true);
        before = made();
        new TimedJoin();
        long one = made() - before;
        check.due("an object has " + one + " bytes: few enough", one < 32768, true);
        check.due("the answers were used", sum != 0, true);
        check.end();
    }

    private static TimedJoin crowded() {
        TimedJoin x = new TimedJoin();
        x.set(0, 0);
        for (int k = 0; k < 40; k++) {
            x.add(0, k % 4, k % 3, k, 100 + k, k % 2);
            x.add(1, k % 4, k % 3, 3 * k, 3 * k + k % 4, k % 2);
        }
        return x;
    }

    private void callAll(TimedJoin x) {
        x.sweep();
        x.step(160);
        x.image(true);
        x.image(false);
        x.batch(0, 0, 500, 501, 0);
        sum += x.load(0) + x.clear() + x.add(0, 0, 0, 0, 0, 0) + x.trouble(0, 0);
        for (int k = 0; k < 40; k++) {
            sum += x.row(0, k, 6 + k % 5) + x.kind(0, k, 1, k) + x.pair(k, k % 6) + x.piece(0, k, k, 2);
            sum += x.left(k % 2, k, 1) + x.kinds(k % 13) + x.shared(k % 3) + x.weight(k % 2, k % 3);
            sum += x.live(0, NONE, k) + x.crowd(k % 3, 1) + x.one(k % 2, k, 4) + x.steps(k % 3, k, 3);
            sum += x.split(k % 2, k, 1, 2) + x.latest(k % 2, k) + x.matched(k % 2, true) + x.lane(k % 2, k);
            sum += x.chain(k % 2, k % 3, k) + x.converse(k) + x.compose(k, 77 * k) + x.look(k % 10) + x.swept(k % 8);
            x.net(k % 6, (k + 1) % 6, 8191 - k);
            sum += x.between(k % 6, (k + 2) % 6, true) + x.sound();
        }
        x.lay(1, 6);
    }
}
