import com.sun.management.ThreadMXBean;
import java.lang.management.ManagementFactory;

/** All calls of a run live in one room: no call makes anything, but each of the two IMAGES the first time. */
public final class RoomTest {
    private static final int OBJECTS = 300;
    /** Each of 29 calls so often, and once before that, stays below the 512 that an object is good for. */
    private static final int TIMES = 16;
    /** Half of what one object of the least size, made by each call, would take. */
    private static final long SMALL = 8L * OBJECTS * TIMES;

    public static void main(String[] args) {
        ThreadMXBean meter = (ThreadMXBean) ManagementFactory.getThreadMXBean();
        long thread = Thread.currentThread().getId();
        Check.Call[] calls = {x -> x.grief(0, 99, 3), x -> x.hold(1, 1, 12, 5), x -> x.breath(60), x -> x.coat(1, 2, 9),
            x -> x.move(0, 1, true), x -> x.say('.'), x -> x.fault(), x -> x.judge(0), x -> x.behind(0, 0),
            x -> x.then(0), x -> x.done(), x -> x.wipe(), x -> x.fitting(0), x -> x.least(0, 0), x -> x.order(0),
            x -> x.make(3, 0), x -> x.ring(2, 9, 0), x -> x.seen(1, true), x -> x.shape(-1), x -> x.ask(0),
            x -> x.forget(), x -> x.play(0, 0), x -> x.themselves(17, 4, 8, 0), x -> x.year(5, 99, 2),
            x -> x.image(0), x -> x.image(1), x -> x.restore(0), x -> x.restore(1), x -> x.told(100)};
        MireWrestle[] objects = new MireWrestle[OBJECTS];
        for (int i = 0; i < OBJECTS; i++) {
            objects[i] = new MireWrestle();
            for (Check.Call call : calls) {
                call.on(objects[i]);
            }
        }
        for (int i = 0; i < calls.length; i++) {
            long before = meter.getThreadAllocatedBytes(thread);
            for (int k = 0; k < OBJECTS * TIMES; k++) {
                calls[i].on(objects[k % OBJECTS]);
            }
            long made = meter.getThreadAllocatedBytes(thread) - before;
            Check.due("call " + i + " makes next to nothing, in bytes " + made, made < SMALL ? 1 : 0, 1);
        }
        Check.end(RoomTest.class);
    }
}
