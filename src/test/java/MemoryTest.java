import com.sun.management.ThreadMXBean;
import java.lang.management.ManagementFactory;

/** "All memory is rows made once": after an object is made, no call of it makes another one. */
public final class MemoryTest {
    private static final int OBJECTS = 300;
    // The machine may make a little by itself; one array in one call of each object is far above it.
    private static final long MOST_BYTES = 8L * OBJECTS;

    private static final ThreadMXBean MEMORY = (ThreadMXBean) ManagementFactory.getThreadMXBean();

    private static int answersSeen;

    public static void main(String[] args) {
        // Once ahead, so that classes loaded at first use are not counted.
        playAll(makeAll());
        ServiceThreads[] objects = makeAll();
        long before = MEMORY.getThreadAllocatedBytes(Thread.currentThread().getId());
        playAll(objects);
        long made = MEMORY.getThreadAllocatedBytes(Thread.currentThread().getId()) - before;
        if (made > MOST_BYTES) {
            Check.same("bytes made by calls", made, "at most " + MOST_BYTES);
        }
        Check.same("answers of turns in the runs, as bits", answersSeen, 0b111111);
        Check.end();
    }

    private static ServiceThreads[] makeAll() {
        ServiceThreads[] objects = new ServiceThreads[OBJECTS];
        for (int i = 0; i < OBJECTS; i++) {
            objects[i] = new ServiceThreads();
        }
        return objects;
    }

    private static void playAll(ServiceThreads[] objects) {
        for (int i = 0; i < OBJECTS; i++) {
            play(objects[i]);
        }
    }

    private static void play(ServiceThreads x) {
        setUp(x);
        turns(x, 0, 2);
        turns(x, 1, 6);
        turns(x, 2, 1);
        turns(x, 3, 2);
        x.call(3);
        turns(x, 3, 2);
        x.run(0x3210_3210_3210_3210L, 16);
        lookAround(x);
        x.kill(3);
        x.lease(0);
        x.kill(7);
        x.close();
        for (int thread = 0; thread <= 7; thread++) {
            x.restart(thread);
        }
        x.run(0x3210_3210_3210_3210L, 16);
        lookAround(x);
    }

    private static void turns(ServiceThreads x, int thread, int n) {
        for (int i = 0; i < n; i++) {
            answersSeen |= 1 << x.step(thread);
        }
    }

    /** Thread 0 has a call from end to end, 1 is told of it and faults, 2 waits, 3 rests. */
    private static void setUp(ServiceThreads x) {
        x.call(0);
        x.act(0, 0, 5);
        x.act(0, 2, 0);
        x.act(0, 3, 16 * 5);
        x.act(0, 4, 0);
        x.act(0, 1, 5);
        x.act(1, 5, 1);
        x.act(1, 2, 0);
        x.act(1, 6, 0);
        x.act(1, 5, 0);
        x.finish(1, 3);
        x.act(2, 0, 5);
        x.act(2, 0, 7);
        x.act(3, 5, 9);
    }

    private static int lookAround(ServiceThreads x) {
        int sum = 0;
        for (int what = 0; what <= 5; what++) {
            sum += x.count(what) + x.thread(3, what);
        }
        for (int what = 0; what <= 3; what++) {
            sum += x.callAt(0, what) + x.row(0, what);
        }
        return sum + x.unit(5, 0) + x.unit(5, 1);
    }
}
