/** Promise 6: run. */
public final class Promise06RunTest {
    public static void main(String[] args) {
        goesByTheBits();
        takesAllSixteen();
        countsActsThatWereDone();
        passesOverThoseThatDoNotRun();
        refusesTheRange();
        Check.end();
    }

    private static void goesByTheBits() {
        ServiceThreads x = new ServiceThreads();
        Scene.program(x, 2, "lock 1; free 1");
        Scene.program(x, 5, "lock 1");
        Check.same("from the lowest bits on", x.run(0x525L, 2), 1);
        Check.same("thread 5 came first", x.unit(1, 0), 5);
        Check.same("two turns", x.count(0), 2);
        Check.same("the fourth bit is none of them", x.run(0xFFFFFFFFFFFFFFDAL, 2), 0);
        Check.same("thread 5 ended behind thread 2", x.thread(5, 0), Scene.ENDED);
        Check.same("thread 7 had no turn", x.thread(7, 0), Scene.RUNNING);
        Check.same("thread 2 waited once more", x.count(0), 4);
    }

    private static void takesAllSixteen() {
        ServiceThreads x = new ServiceThreads();
        for (int thread = 0; thread < 8; thread++) {
            Scene.program(x, thread, "rest 0; rest 0");
        }
        Check.same("two turns of each", x.run(0xFEDCBA9876543210L, 16), 16);
        for (int thread = 0; thread < 8; thread++) {
            Check.same("acts of thread " + thread, x.thread(thread, 1), 2);
        }
        Check.same("none", x.run(-1L, 0), 0);
        Check.same("turns", x.count(0), 16);
    }

    private static void countsActsThatWereDone() {
        ServiceThreads x = new ServiceThreads();
        Scene.program(x, 0, "lock 1; take 0; rest 1; fail");
        Scene.program(x, 1, "take 0; lock 1");
        x.call(0);
        // lock, take, rest begins, rest ends; told, waits; fault; ends; ended: passed over.
        Check.same("answers 1 alone", x.run(0x000110000L, 9), 3);
        Check.same("turns", x.count(0), 8);
        Check.same("rows", x.count(1), 2);
    }

    private static void passesOverThoseThatDoNotRun() {
        ServiceThreads x = new ServiceThreads();
        Scene.program(x, 1, "rest 0");
        Scene.program(x, 2, "rest 0; rest 0");
        x.kill(1);
        x.step(0);
        Check.same("one of them runs", x.run(0x2101L, 4), 1);
        Check.same("no turn for the others", x.count(0), 2);
        Check.same("a dead one stays at its act", x.thread(1, 1), 0);
    }

    private static void refusesTheRange() {
        ServiceThreads x = new ServiceThreads();
        Scene.program(x, 0, "rest 0");
        for (int n : new int[] {-1, 17, Integer.MIN_VALUE, Integer.MAX_VALUE}) {
            Check.refuses("n " + n, IndexOutOfBoundsException.class, () -> x.run(0L, n));
        }
        Check.same("no turn", x.count(0), 0);
    }
}
