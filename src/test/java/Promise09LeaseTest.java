/** Promise 9: lease, and when dead ones' locks are freed. */
public final class Promise09LeaseTest {
    public static void main(String[] args) {
        isTenAtFirst();
        zeroFreesAtOnce();
        oneFreesAheadOfTheNextAct();
        countsFromTheLatestTurn();
        isThatOfTheDeath();
        runsForEachByItself();
        goesUpToAHundred();
        aTurnThatEndsFreesToo();
        refusesTheRange();
        Check.end();
    }

    /** Thread 0 has unit 2 locked and is dead; thread 1 waits for it with its act 0. */
    private static ServiceThreads deadLocker(int lease) {
        ServiceThreads x = new ServiceThreads();
        Scene.program(x, 0, "lock 2");
        Scene.program(x, 1, "lock 2; rest 0");
        x.lease(lease);
        x.step(0);
        x.kill(0);
        return x;
    }

    private static int turnsThatWait(ServiceThreads x) {
        int waits = 0;
        while (waits < 200 && x.step(1) == Scene.PASSED_OVER) {
            waits++;
        }
        return waits;
    }

    private static void isTenAtFirst() {
        ServiceThreads x = new ServiceThreads();
        Scene.program(x, 0, "lock 2");
        Scene.program(x, 1, "lock 2; rest 0");
        x.step(0);
        x.kill(0);
        Check.same("turns that wait", turnsThatWait(x), 9);
        Check.same("the turn that locked", x.count(0), 11);
    }

    private static void zeroFreesAtOnce() {
        ServiceThreads x = deadLocker(0);
        Check.same("freed at once", x.unit(2, 0), Scene.NOBODY);
        Check.same("units locked", x.count(5), 0);
    }

    private static void oneFreesAheadOfTheNextAct() {
        ServiceThreads x = deadLocker(1);
        Check.same("kept until a turn", x.unit(2, 0), 0);
        Scene.steps(x, "ahead of the act", 1, Scene.DONE);
        Check.same("locked by the next", x.unit(2, 0), 1);
    }

    private static void countsFromTheLatestTurn() {
        ServiceThreads x = new ServiceThreads();
        Scene.program(x, 0, "lock 2");
        Scene.program(x, 1, "lock 2");
        Scene.program(x, 2, "rest 200");
        x.lease(3);
        x.step(0);
        x.run(0x22222L, 5);
        x.kill(0);
        x.run(0x22L, 2);
        Check.same("any thread's turns count; two are not enough", x.unit(2, 0), 0);
        x.run(0x0L, 1);
        Check.same("a dead one has no turn", x.unit(2, 0), 0);
        x.step(2);
        Check.same("the third frees", x.unit(2, 0), Scene.NOBODY);
    }

    private static void isThatOfTheDeath() {
        ServiceThreads x = deadLocker(5);
        x.lease(1);
        Check.same("a shorter one later", turnsThatWait(x), 4);
        ServiceThreads y = deadLocker(2);
        y.lease(50);
        Check.same("a longer one later", turnsThatWait(y), 1);
        ServiceThreads z = deadLocker(2);
        z.lease(0);
        Check.same("none later", z.unit(2, 0), 0);
    }

    private static void runsForEachByItself() {
        ServiceThreads x = new ServiceThreads();
        Scene.program(x, 0, "lock 2");
        Scene.program(x, 1, "lock 3");
        Scene.program(x, 7, "rest 200");
        x.lease(2);
        x.run(0x10L, 2);
        x.kill(1);
        x.step(7);
        x.kill(0);
        x.step(7);
        Check.same("the first is due", x.unit(3, 0), Scene.NOBODY);
        Check.same("the second is not", x.unit(2, 0), 0);
        x.step(7);
        Check.same("then the second", x.unit(2, 0), Scene.NOBODY);
    }

    private static void goesUpToAHundred() {
        Check.same("100", turnsThatWait(deadLocker(100)), 99);
    }

    private static void aTurnThatEndsFreesToo() {
        ServiceThreads x = deadLocker(1);
        Scene.steps(x, "a thread without acts", 5, Scene.END);
        Check.same("freed", x.unit(2, 0), Scene.NOBODY);
    }

    private static void refusesTheRange() {
        ServiceThreads x = new ServiceThreads();
        Scene.program(x, 0, "lock 2");
        Scene.program(x, 1, "lock 2");
        x.lease(4);
        for (int turns : new int[] {-1, 101, Integer.MIN_VALUE, Integer.MAX_VALUE}) {
            Check.refuses("lease " + turns, IndexOutOfBoundsException.class, () -> x.lease(turns));
        }
        x.step(0);
        x.kill(0);
        Check.same("the lease is as it was", turnsThatWait(x), 3);
    }
}
