/** Promise 10: close. */
public final class Promise10CloseTest {
    public static void main(String[] args) {
        endsAllThatRun();
        freesAndDrops();
        freesLocksOfDeadOnes();
        canGoOnBehindIt();
        Check.end();
    }

    private static void endsAllThatRun() {
        ServiceThreads x = new ServiceThreads();
        Check.same("those without acts run too", x.close(), 8);
        Check.same("none runs any more", x.close(), 0);
        ServiceThreads y = new ServiceThreads();
        Scene.program(y, 0, "rest 5");
        y.step(0);
        y.step(3);
        y.kill(4);
        Check.same("less one that ended and one dead", y.close(), 6);
        for (int thread = 0; thread < 8; thread++) {
            int due = thread == 4 ? Scene.DEAD : Scene.ENDED;
            Check.same("thread " + thread, y.thread(thread, 0), due);
        }
        Check.same("no turns", y.count(0), 2);
        Check.same("no rows", y.count(1), 0);
        Check.same("running with acts", y.count(2), 0);
        Check.same("it stays at its act", y.thread(0, 1), 0);
    }

    private static void freesAndDrops() {
        ServiceThreads x = new ServiceThreads();
        Scene.program(x, 0, "lock 2; take 0; take 1; send 2 1; take 2; close 2");
        Scene.program(x, 7, "lock 9; take 3");
        Scene.program(x, 3, "take 4");
        for (int i = 0; i < 5; i++) {
            x.call(0);
        }
        x.run(0x3377000000L, 10);
        Check.same("running ones", x.close(), 7);
        Check.same("locks of all", x.count(5), 0);
        Check.same("a call without a unit", x.callAt(0, 1), Scene.NOBODY);
        Check.same("a call with a unit stays", x.callAt(1, 1), 0);
        Check.same("its unit stays sent", x.unit(2, 1), 1);
        Check.same("a closed call stays", x.callAt(2, 1), 0);
        Check.same("the last thread's call", x.callAt(3, 1), Scene.NOBODY);
        Check.same("one that had ended keeps its call", x.callAt(4, 1), 3);
        Check.same("calls stay open", x.count(4), 4);
    }

    private static void freesLocksOfDeadOnes() {
        ServiceThreads x = new ServiceThreads();
        Scene.program(x, 0, "lock 2");
        x.lease(100);
        x.step(0);
        x.kill(0);
        Check.same("those that run", x.close(), 7);
        Check.same("freed ahead of its time", x.unit(2, 0), Scene.NOBODY);
        Check.same("it stays dead", x.thread(0, 0), Scene.DEAD);
    }

    private static void canGoOnBehindIt() {
        ServiceThreads x = new ServiceThreads();
        Scene.program(x, 0, "rest 3");
        x.run(0L, 2);
        x.close();
        x.call(3);
        x.restart(0);
        Scene.steps(x, "begun anew", 0, Scene.RESTS, Scene.RESTS, Scene.RESTS, Scene.DONE, Scene.END);
        Check.same("not interrupted", x.thread(0, 5), 0);
    }
}
