/** Promise 7: kill, and where a dead one's calls go. */
public final class Promise07KillTest {
    public static void main(String[] args) {
        dies();
        passesItsCallsOn();
        goesRoundBehindTheHighest();
        withoutAnHeirNobodyHasThem();
        keepsWhatItWas();
        refusesInOrder();
        Check.end();
    }

    private static void dies() {
        ServiceThreads x = new ServiceThreads();
        Scene.program(x, 0, "lock 2; rest 0");
        x.step(0);
        x.kill(0);
        Check.same("it is dead", x.thread(0, 0), Scene.DEAD);
        Check.same("it keeps its lock", x.unit(2, 0), 0);
        Check.same("units that it has", x.thread(0, 3), 1);
        Check.same("a death is no turn", x.count(0), 1);
        Check.same("a death is not told", x.count(1), 0);
        Check.same("none runs with acts", x.count(2), 0);
        x.kill(7);
        Check.same("one without acts dies too", x.thread(7, 0), Scene.DEAD);
    }

    private static void passesItsCallsOn() {
        ServiceThreads x = new ServiceThreads();
        Scene.program(x, 1, "take 0; take 1; take 2; lock 3; send 3 1; close 2");
        Scene.program(x, 3, "rest 9");
        Scene.program(x, 4, "rest 9");
        Scene.program(x, 5, "take 3; rest 9");
        Scene.program(x, 6, "rest 9");
        for (int i = 0; i < 5; i++) {
            x.call(0);
        }
        x.run(0x5111111L, 7);
        x.kill(3);
        x.kill(1);
        Check.same("thread 2 has no acts, 3 is dead: a call", x.callAt(0, 1), 4);
        Check.same("a call with a unit goes too", x.callAt(1, 1), 4);
        Check.same("its unit stays", x.callAt(1, 2), 3);
        Check.same("a closed call stays", x.callAt(2, 1), 1);
        Check.same("another's call stays", x.callAt(3, 1), 5);
        Check.same("one that nobody has stays so", x.callAt(4, 1), Scene.NOBODY);
        x.kill(4);
        Check.same("they go on with the next death", x.callAt(0, 1), 5);
    }

    private static void goesRoundBehindTheHighest() {
        ServiceThreads x = new ServiceThreads();
        Scene.program(x, 6, "take 0");
        Scene.program(x, 1, "rest 9");
        Scene.program(x, 5, "rest 9");
        x.call(0);
        x.step(6);
        x.kill(6);
        Check.same("from 0 on behind the highest", x.callAt(0, 1), 1);
        x.kill(1);
        Check.same("the next number", x.callAt(0, 1), 5);
    }

    private static void withoutAnHeirNobodyHasThem() {
        ServiceThreads x = new ServiceThreads();
        Scene.program(x, 2, "take 0");
        Scene.program(x, 3, "rest 0");
        x.call(0);
        x.run(0x332L, 3);
        x.kill(2);
        Check.same("others ended or have no acts", x.callAt(0, 1), Scene.NOBODY);
        x.restart(2);
        Scene.steps(x, "it can be taken again", 2, Scene.DONE);
    }

    private static void keepsWhatItWas() {
        ServiceThreads x = new ServiceThreads();
        Scene.program(x, 0, "fail; rest 0; rest 5");
        x.finish(0, 1);
        x.run(0L, 4);
        x.kill(0);
        Check.same("its act", x.thread(0, 1), 2);
        Check.same("its fault", x.thread(0, 2), 5);
        Check.same("turns of its rest", x.thread(0, 4), 4);
    }

    private static void refusesInOrder() {
        ServiceThreads x = new ServiceThreads();
        x.step(0);
        x.kill(1);
        for (int thread : new int[] {-1, 8, Integer.MIN_VALUE, Integer.MAX_VALUE}) {
            Check.refuses("thread " + thread, IllegalArgumentException.class, () -> x.kill(thread));
        }
        Check.refuses("an ended one", IllegalStateException.class, () -> x.kill(0));
        Check.refuses("a dead one", IllegalStateException.class, () -> x.kill(1));
        Check.same("it stays ended", x.thread(0, 0), Scene.ENDED);
    }
}
