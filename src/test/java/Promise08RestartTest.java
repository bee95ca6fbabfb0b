/** Promise 8: restart. */
public final class Promise08RestartTest {
    public static void main(String[] args) {
        anEndedOneBeginsAnew();
        aDeadOneBeginsWithoutLocks();
        anOldLeaseDoesNotFreeNewLocks();
        aRestBeginsAfresh();
        keepsItsCalls();
        refusesInOrder();
        Check.end();
    }

    private static void anEndedOneBeginsAnew() {
        ServiceThreads x = new ServiceThreads();
        Scene.program(x, 0, "rest 0; fail");
        x.finish(0, 1);
        Scene.steps(x, "a fault of the finish", 0, Scene.DONE, Scene.FAULT);
        x.restart(0);
        Check.same("it runs", x.thread(0, 0), Scene.RUNNING);
        Check.same("at act 0", x.thread(0, 1), 0);
        Check.same("without a fault", x.thread(0, 2), 0);
        Check.same("rows stay", x.count(1), 1);
        Check.same("a restart is no turn", x.count(0), 2);
        Scene.steps(x, "once more", 0, Scene.DONE, Scene.FAULT);
    }

    private static void aDeadOneBeginsWithoutLocks() {
        ServiceThreads x = new ServiceThreads();
        Scene.program(x, 0, "lock 2; lock 3; rest 0");
        Scene.program(x, 1, "lock 4");
        x.run(0x100L, 3);
        x.kill(0);
        Check.same("dead, with locks", x.thread(0, 3), 2);
        x.restart(0);
        Check.same("without locks", x.thread(0, 3), 0);
        Check.same("another's stay", x.unit(4, 0), 1);
        Scene.steps(x, "once more", 0, Scene.DONE, Scene.DONE, Scene.DONE, Scene.END);
    }

    private static void anOldLeaseDoesNotFreeNewLocks() {
        ServiceThreads x = new ServiceThreads();
        Scene.program(x, 0, "lock 2; rest 20");
        x.lease(3);
        x.step(0);
        x.kill(0);
        x.restart(0);
        x.run(0L, 10);
        Check.same("its new lock stays", x.unit(2, 0), 0);
    }

    private static void aRestBeginsAfresh() {
        ServiceThreads x = new ServiceThreads();
        Scene.program(x, 0, "rest 2");
        x.step(0);
        x.call(0);
        x.step(0);
        x.call(0);
        x.kill(0);
        x.restart(0);
        Check.same("no turns of a rest are left", x.thread(0, 4), 0);
        Check.same("the times in all stay", x.thread(0, 5), 1);
        Scene.steps(x, "not interrupted", 0, Scene.RESTS, Scene.RESTS, Scene.DONE);
        Check.same("it was not interrupted", x.thread(0, 5), 1);
    }

    private static void keepsItsCalls() {
        ServiceThreads x = new ServiceThreads();
        Scene.program(x, 0, "take 0");
        x.call(0);
        Scene.steps(x, "to its end", 0, Scene.DONE, Scene.END);
        x.restart(0);
        Check.same("its call", x.callAt(0, 1), 0);
        x.act(0, 4, 0);
        Scene.steps(x, "it may close it", 0, Scene.DONE, Scene.DONE, Scene.END);
    }

    private static void refusesInOrder() {
        ServiceThreads x = new ServiceThreads();
        Scene.program(x, 0, "rest 5");
        x.run(0L, 2);
        for (int thread : new int[] {-1, 8, Integer.MIN_VALUE, Integer.MAX_VALUE}) {
            Check.refuses("thread " + thread, IllegalArgumentException.class, () -> x.restart(thread));
        }
        Check.refuses("a running one", IllegalStateException.class, () -> x.restart(0));
        Check.refuses("one without acts runs", IllegalStateException.class, () -> x.restart(1));
        Check.same("its rest goes on", x.thread(0, 4), 4);
    }
}
