import com.sun.management.ThreadMXBean;
import java.lang.management.ManagementFactory;

/** All calls of one run live in one room: rows are made with the object, and calls make next to nothing. */
public final class RoomTest {
    private static final long MOST_BYTES_OF_AN_OBJECT = 8000, MOST_BYTES_OF_CALLS = 16000;
    // each round is 23 calls, and an object is good for 512
    private static final int ROUNDS = 22;

    private static void callAll(TouchReign x, int i) {
        x.road(i % 12, (i + 1) % 12, true);
        x.one(i % 7, i % 12, i % 10);
        x.crown(i % 7);
        x.say('A' + i % 7);
        x.say('+');
        x.judge(0);
        x.then(0);
        x.behind(i % 7, 0);
        x.done();
        x.rounds(i % 12, 0);
        x.heads(i % 12, 0);
        x.flees(i % 12, 0);
        x.shade(i % 12, 1);
        x.met(i % 7, (i + 1) % 7);
        x.chance(0, i % 7, 3, 0);
        x.touches(0, i % 7);
        x.maybe(0);
        x.seen(i % 12, (i + 2) % 12, i % 2 == 0);
        x.ask(0);
        x.year(i, 99, 0);
        x.image(i % 2);
        x.restore(i % 2);
        x.told(i % 112);
    }

    public static void main(String[] args) {
        ThreadMXBean bean = (ThreadMXBean) ManagementFactory.getThreadMXBean();
        long me = Thread.currentThread().getId();
        TouchReign warm = new TouchReign();
        for (int i = 0; i < ROUNDS; i++) callAll(warm, i);
        bean.getThreadAllocatedBytes(me);
        long start = bean.getThreadAllocatedBytes(me);
        TouchReign x = new TouchReign();
        long made = bean.getThreadAllocatedBytes(me);
        for (int i = 0; i < ROUNDS; i++) callAll(x, i);
        long end = bean.getThreadAllocatedBytes(me);
        System.out.println("bytes of an object " + (made - start) + ", of its calls " + (end - made));
        if (made - start > MOST_BYTES_OF_AN_OBJECT || end - made > MOST_BYTES_OF_CALLS) System.exit(1);
    }
}
