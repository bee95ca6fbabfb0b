/** Promise 4: call, and the rests that it interrupts. */
public final class Promise04CallTest {
    public static void main(String[] args) {
        answersItsNumber();
        refusesInOrder();
        interruptsOneWithoutCalls();
        interruptsOnlyFromAbove();
        closedCallsDoNotHold();
        othersCallsDoNotHold();
        interruptsOnlyThoseThatRest();
        anOldCallThatIsPassedOnDoesNotInterrupt();
        Check.end();
    }

    private static void answersItsNumber() {
        ServiceThreads x = new ServiceThreads();
        for (int i = 0; i < 16; i++) {
            Check.same("call " + i, x.call(i % 4), i);
            Check.same("rank of call " + i, x.callAt(i, 0), i % 4);
            Check.same("who has call " + i, x.callAt(i, 1), Scene.NOBODY);
            Check.same("unit of call " + i, x.callAt(i, 2), Scene.NOBODY);
            Check.same("call " + i + " is open", x.callAt(i, 3), 1);
        }
        Check.same("open calls", x.count(4), 16);
    }

    private static void refusesInOrder() {
        ServiceThreads x = new ServiceThreads();
        Scene.program(x, 0, "take 0; close 0");
        for (int i = 0; i < 16; i++) {
            x.call(0);
        }
        for (int rank : new int[] {-1, 4, Integer.MIN_VALUE, Integer.MAX_VALUE}) {
            Check.refuses("rank " + rank, IndexOutOfBoundsException.class, () -> x.call(rank));
        }
        Check.refuses("a 17th", UnsupportedOperationException.class, () -> x.call(3));
        x.run(0L, 2);
        Check.refuses("closed ones count", UnsupportedOperationException.class, () -> x.call(3));
        Check.same("open calls", x.count(4), 15);
    }

    private static void interruptsOneWithoutCalls() {
        ServiceThreads x = new ServiceThreads();
        Scene.program(x, 0, "rest 3");
        Scene.steps(x, "a rest", 0, Scene.RESTS, Scene.RESTS);
        Check.same("left ahead of the call", x.thread(0, 4), 2);
        x.call(0);
        x.call(3);
        Check.same("left until its next turn", x.thread(0, 4), 2);
        Check.same("not yet anew", x.thread(0, 5), 0);
        Scene.steps(x, "anew", 0, Scene.RESTS);
        Check.same("all of them are left", x.thread(0, 4), 3);
        Check.same("once for both calls", x.thread(0, 5), 1);
        Scene.steps(x, "anew", 0, Scene.RESTS, Scene.RESTS);
        x.call(0);
        Scene.steps(x, "anew again", 0, Scene.RESTS, Scene.RESTS, Scene.RESTS, Scene.DONE, Scene.END);
        Check.same("anew in all", x.thread(0, 5), 2);
    }

    private static void interruptsOnlyFromAbove() {
        ServiceThreads x = new ServiceThreads();
        Scene.program(x, 0, "take 0; take 1; rest 2");
        x.call(2);
        x.call(1);
        Scene.steps(x, "with calls", 0, Scene.DONE, Scene.DONE, Scene.RESTS);
        x.call(1);
        x.call(2);
        Scene.steps(x, "none is above", 0, Scene.RESTS);
        Check.same("one is left", x.thread(0, 4), 1);
        x.call(3);
        Scene.steps(x, "one is above", 0, Scene.RESTS);
        Check.same("begun anew", x.thread(0, 4), 2);
        Scene.steps(x, "to its end", 0, Scene.RESTS, Scene.DONE);
    }

    private static void closedCallsDoNotHold() {
        ServiceThreads x = new ServiceThreads();
        Scene.program(x, 0, "take 0; close 0; take 1; rest 2");
        x.call(3);
        x.call(0);
        Scene.steps(x, "closed", 0, Scene.DONE, Scene.DONE, Scene.DONE, Scene.RESTS);
        x.call(1);
        x.step(0);
        Check.same("its closed call's rank holds nothing off", x.thread(0, 5), 1);
    }

    private static void othersCallsDoNotHold() {
        ServiceThreads x = new ServiceThreads();
        Scene.program(x, 0, "rest 2");
        Scene.program(x, 1, "take 0; rest 2");
        x.call(2);
        Scene.steps(x, "another's", 0, Scene.RESTS);
        Scene.steps(x, "another's", 1, Scene.DONE, Scene.RESTS);
        x.call(1);
        x.run(0x10L, 2);
        Check.same("thread 0 has none", x.thread(0, 5), 1);
        Check.same("thread 1 has a higher one", x.thread(1, 5), 0);
    }

    private static void interruptsOnlyThoseThatRest() {
        ServiceThreads x = new ServiceThreads();
        Scene.program(x, 0, "rest 2; rest 2");
        x.call(3);
        Scene.steps(x, "a call ahead of the rest", 0, Scene.RESTS, Scene.RESTS, Scene.DONE);
        x.call(3);
        Scene.steps(x, "a call between rests", 0, Scene.RESTS, Scene.RESTS, Scene.DONE);
        Check.same("never anew", x.thread(0, 5), 0);
        Scene.program(x, 1, "rest 2");
        x.step(1);
        x.kill(1);
        x.call(3);
        x.restart(1);
        Scene.steps(x, "a call while it was dead", 1, Scene.RESTS, Scene.RESTS, Scene.DONE);
        Check.same("a dead one does not rest", x.thread(1, 5), 0);
    }

    private static void anOldCallThatIsPassedOnDoesNotInterrupt() {
        ServiceThreads x = new ServiceThreads();
        Scene.program(x, 0, "take 0");
        Scene.program(x, 1, "rest 2");
        x.call(3);
        x.step(0);
        x.step(1);
        x.kill(0);
        Check.same("thread 1 has it", x.callAt(0, 1), 1);
        Scene.steps(x, "its rest goes on", 1, Scene.RESTS, Scene.DONE);
    }
}
