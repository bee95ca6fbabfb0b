/** Promise 3: finish, and where a fault goes on. */
public final class Promise03FinishTest {
    public static void main(String[] args) {
        goesOnAtTheFinish();
        faultsOfTheFinishEnd();
        isBehindAllAtFirst();
        asManyAsThereAreStaysBehindAll();
        anActStaysWhereItIs();
        zeroOfNoActsIsBehindAll();
        refusesInOrder();
        Check.end();
    }

    private static void goesOnAtTheFinish() {
        ServiceThreads x = new ServiceThreads();
        Scene.program(x, 0, "fail; rest 0; rest 0; rest 0");
        x.finish(0, 2);
        Scene.steps(x, "ahead of the finish", 0, Scene.FAULT);
        Check.same("it goes on at its finish", x.thread(0, 1), 2);
        Check.same("it runs", x.thread(0, 0), Scene.RUNNING);
        Scene.steps(x, "the finish runs", 0, Scene.DONE, Scene.DONE, Scene.END);
    }

    private static void faultsOfTheFinishEnd() {
        ServiceThreads x = new ServiceThreads();
        Scene.program(x, 0, "rest 0; fail; rest 0");
        x.finish(0, 1);
        Scene.steps(x, "the finish's first act", 0, Scene.DONE, Scene.FAULT);
        Check.same("it ended", x.thread(0, 0), Scene.ENDED);
        Check.same("the act is left undone", x.thread(0, 1), 1);
        ServiceThreads y = new ServiceThreads();
        Scene.program(y, 0, "fail; rest 0");
        y.finish(0, 0);
        Scene.steps(y, "all acts finish", 0, Scene.FAULT);
        Check.same("it ended at act 0", y.thread(0, 0), Scene.ENDED);
    }

    private static void isBehindAllAtFirst() {
        ServiceThreads x = new ServiceThreads();
        Scene.program(x, 0, "fail; rest 0; rest 0");
        Scene.steps(x, "no finish was told", 0, Scene.FAULT);
        Check.same("behind all", x.thread(0, 1), 3);
        Check.same("its next turn ends it", x.thread(0, 0), Scene.RUNNING);
        Scene.steps(x, "no finish was told", 0, Scene.END);
    }

    private static void asManyAsThereAreStaysBehindAll() {
        ServiceThreads x = new ServiceThreads();
        Scene.program(x, 0, "fail; rest 0");
        x.finish(0, 1);
        x.finish(0, 2);
        Scene.program(x, 0, "rest 0; rest 0");
        Scene.steps(x, "as many as there are", 0, Scene.FAULT);
        Check.same("behind those that came later", x.thread(0, 1), 4);
    }

    private static void anActStaysWhereItIs() {
        ServiceThreads x = new ServiceThreads();
        Scene.program(x, 0, "fail; rest 0");
        x.finish(0, 1);
        Scene.program(x, 0, "rest 0; rest 0");
        Scene.steps(x, "an act", 0, Scene.FAULT);
        Check.same("the act that was told", x.thread(0, 1), 1);
        x.kill(0);
        x.restart(0);
        Scene.steps(x, "begun anew", 0, Scene.FAULT);
        Check.same("the finish outlives a restart", x.thread(0, 1), 1);
    }

    private static void zeroOfNoActsIsBehindAll() {
        ServiceThreads x = new ServiceThreads();
        x.finish(0, 0);
        Scene.program(x, 0, "fail; rest 0");
        Scene.steps(x, "0 of 0", 0, Scene.FAULT);
        Check.same("behind all", x.thread(0, 1), 2);
    }

    private static void refusesInOrder() {
        ServiceThreads x = new ServiceThreads();
        Scene.program(x, 0, "rest 0; rest 0");
        Check.refuses("no acts", IndexOutOfBoundsException.class, () -> x.finish(1, 1));
        x.step(0);
        for (int thread : new int[] {-1, 8, Integer.MIN_VALUE, Integer.MAX_VALUE}) {
            Check.refuses("thread " + thread, IllegalArgumentException.class, () -> x.finish(thread, -1));
        }
        for (int act : new int[] {-1, 3, Integer.MIN_VALUE, Integer.MAX_VALUE}) {
            Check.refuses("act " + act, IndexOutOfBoundsException.class, () -> x.finish(0, act));
        }
        Check.refuses("behind a turn", IllegalStateException.class, () -> x.finish(0, 2));
        x.kill(0);
        Check.refuses("dead behind a turn", IllegalStateException.class, () -> x.finish(0, 2));
        x.restart(0);
        x.finish(0, 2);
    }
}
