/** Promise 2: act. */
public final class Promise02ActTest {
    public static void main(String[] args) {
        answersHowMany();
        takesTheEdges();
        refusesInOrder();
        asksForNoTurnSinceItBegan();
        goesOnWhereThereWasNoTurn();
        Check.end();
    }

    private static void answersHowMany() {
        ServiceThreads x = new ServiceThreads();
        for (int i = 1; i <= 16; i++) {
            Check.same("act " + i + " of thread 7", x.act(7, 5, 0), i);
        }
        Check.same("thread 6 counts for itself", x.act(6, 0, 0), 1);
        Check.refuses("a 17th act", UnsupportedOperationException.class, () -> x.act(7, 5, 0));
        Check.same("all 16 are done", x.run(0x7777777777777777L, 16), 16);
        Check.same("behind all", x.thread(7, 1), 16);
    }

    private static void takesTheEdges() {
        ServiceThreads x = new ServiceThreads();
        Check.same("the lowest", x.act(0, 0, 0), 1);
        Check.same("the highest", x.act(0, 6, 255), 2);
        ServiceThreads y = new ServiceThreads();
        y.act(0, 5, 255);
        Scene.steps(y, "a rest of 255", 0, Scene.RESTS);
        Check.same("left of a rest of 255", y.thread(0, 4), 255);
    }

    private static void refusesInOrder() {
        ServiceThreads x = new ServiceThreads();
        for (int i = 0; i < 16; i++) {
            x.act(0, 5, 0);
        }
        x.step(0);
        for (int thread : new int[] {-1, 8, Integer.MIN_VALUE, Integer.MAX_VALUE}) {
            Check.refuses("thread " + thread, IllegalArgumentException.class, () -> x.act(thread, 0, 256));
        }
        for (int kind : new int[] {-1, 7, Integer.MIN_VALUE, Integer.MAX_VALUE}) {
            Check.refuses("kind " + kind, IllegalArgumentException.class, () -> x.act(0, kind, -1));
        }
        for (int number : new int[] {-1, 256, Integer.MIN_VALUE, Integer.MAX_VALUE}) {
            Check.refuses("number " + number, IndexOutOfBoundsException.class, () -> x.act(0, 0, number));
        }
        Check.refuses("state ahead of room", IllegalStateException.class, () -> x.act(0, 0, 0));
        x.kill(0);
        x.restart(0);
        Check.refuses("no room", UnsupportedOperationException.class, () -> x.act(0, 0, 0));
    }

    private static void asksForNoTurnSinceItBegan() {
        ServiceThreads x = new ServiceThreads();
        Scene.program(x, 0, "lock 1");
        Scene.program(x, 1, "lock 1");
        x.step(0);
        Check.refuses("a running one behind a turn", IllegalStateException.class, () -> x.act(0, 5, 0));
        x.step(1);
        Check.refuses("a turn that was passed over", IllegalStateException.class, () -> x.act(1, 5, 0));
        x.step(0);
        Check.refuses("an ended one", IllegalStateException.class, () -> x.act(0, 5, 0));
        x.restart(0);
        Check.same("one that began anew", x.act(0, 5, 0), 2);
        x.step(2);
        Check.refuses("one without acts that ended", IllegalStateException.class, () -> x.act(2, 5, 0));
    }

    private static void goesOnWhereThereWasNoTurn() {
        ServiceThreads x = new ServiceThreads();
        x.kill(0);
        Check.same("a dead one that had no turn", x.act(0, 5, 0), 1);
        x.run(0L, 1);
        Check.same("run passes a dead one over: no turn", x.act(0, 5, 0), 2);
        x.close();
        Check.same("a closed one that had no turn", x.act(1, 5, 0), 1);
    }
}
