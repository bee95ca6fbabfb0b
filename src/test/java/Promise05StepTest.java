/** Promise 5: step, and what each act does. */
public final class Promise05StepTest {
    public static void main(String[] args) {
        locks();
        locksInNumberOrder();
        frees();
        freesTheLowestAndTheHighest();
        takes();
        tellsTwoTakers();
        sends();
        refusesToSend();
        closes();
        refusesToClose();
        rests();
        fails();
        faultsUndo();
        ends();
        refusesInOrder();
        Check.end();
    }

    private static void locks() {
        ServiceThreads x = new ServiceThreads();
        Scene.program(x, 0, "lock 0; lock 9");
        Scene.program(x, 1, "lock 9");
        Scene.steps(x, "free ones", 0, Scene.DONE, Scene.DONE);
        Check.same("unit 0", x.unit(0, 0), 0);
        Check.same("unit 9", x.unit(9, 0), 0);
        Scene.steps(x, "another has it", 1, Scene.PASSED_OVER, Scene.PASSED_OVER);
        Check.same("it stays at its act", x.thread(1, 1), 0);
        Check.same("turns that are passed over count", x.count(0), 4);
        Check.same("waiting is not told", x.count(1), 0);
        Scene.steps(x, "its end frees", 0, Scene.END);
        Scene.steps(x, "free now", 1, Scene.DONE);
        Check.same("unit 9 then", x.unit(9, 0), 1);
        ServiceThreads y = new ServiceThreads();
        Scene.program(y, 0, "lock 10");
        Scene.fault(y, "a unit above 9", 0, 3);
        ServiceThreads z = new ServiceThreads();
        Scene.program(z, 0, "lock 255");
        Scene.fault(z, "the highest number", 0, 3);
    }

    private static void locksInNumberOrder() {
        ServiceThreads x = new ServiceThreads();
        Scene.program(x, 0, "lock 4; lock 4");
        x.step(0);
        Scene.fault(x, "one that it has", 0, 1);
        Check.same("its locks are freed", x.unit(4, 0), Scene.NOBODY);
        Scene.program(x, 1, "lock 3; lock 5; lock 3");
        Scene.steps(x, "two", 1, Scene.DONE, Scene.DONE);
        Scene.fault(x, "one that it has, below another", 1, 1);
        Scene.program(x, 2, "lock 5; lock 4");
        x.step(2);
        Scene.fault(x, "a free one below", 2, 2);
        Scene.program(x, 3, "lock 1");
        Scene.program(x, 4, "lock 2; lock 1");
        x.step(3);
        x.step(4);
        Scene.fault(x, "one below that another has", 4, 2);
        Check.same("another's lock stays", x.unit(1, 0), 3);
        Scene.program(x, 5, "lock 6; lock 7; free 7; free 6; lock 6");
        Scene.steps(x, "freed ones do not count", 5, 1, 1, 1, 1, 1);
    }

    private static void frees() {
        ServiceThreads x = new ServiceThreads();
        Scene.program(x, 0, "lock 4; free 4; free 4");
        Scene.steps(x, "its own", 0, Scene.DONE, Scene.DONE);
        Check.same("nobody has it", x.unit(4, 0), Scene.NOBODY);
        Scene.fault(x, "one that nobody has", 0, 3);
        Scene.program(x, 1, "lock 4");
        Scene.program(x, 2, "free 4");
        x.step(1);
        Scene.fault(x, "another's", 2, 3);
        Check.same("another's stays", x.unit(4, 0), 1);
        Scene.program(x, 3, "free 10");
        Scene.fault(x, "a unit above 9", 3, 3);
    }

    private static void freesTheLowestAndTheHighest() {
        ServiceThreads x = new ServiceThreads();
        Scene.program(x, 0, "lock 0; lock 9; free 0; free 9; lock 0; lock 9");
        Scene.steps(x, "both", 0, 1, 1, 1, 1);
        Check.same("none is locked", x.count(5), 0);
        Scene.steps(x, "to its end", 0, Scene.DONE, Scene.DONE, Scene.END);
        Check.same("its end frees unit 0", x.unit(0, 0), Scene.NOBODY);
        Check.same("its end frees unit 9", x.unit(9, 0), Scene.NOBODY);
    }

    private static void takes() {
        ServiceThreads x = new ServiceThreads();
        Scene.program(x, 0, "take 0; take 0; close 0; take 0");
        Scene.program(x, 1, "take 1");
        Scene.program(x, 2, "take 255");
        x.call(0);
        Scene.steps(x, "one that nobody has, then its own", 0, Scene.DONE, Scene.DONE);
        Check.same("it has it", x.callAt(0, 1), 0);
        x.step(0);
        Scene.fault(x, "its own, closed", 0, 6);
        Scene.fault(x, "none such", 1, 6);
        Scene.fault(x, "none such, by far", 2, 6);
    }

    private static void tellsTwoTakers() {
        ServiceThreads x = new ServiceThreads();
        Scene.program(x, 0, "take 0");
        Scene.program(x, 1, "lock 2; take 0; rest 0");
        x.call(0);
        x.step(0);
        Scene.steps(x, "the second taker", 1, Scene.DONE, Scene.TOLD);
        Check.same("the first one has it still", x.callAt(0, 1), 0);
        Check.same("rows", x.count(1), 1);
        Check.same("the row's thread", x.row(0, 0), 1);
        Check.same("the row has no fault", x.row(0, 1), 0);
        Check.same("the row's act", x.row(0, 2), 1);
        Check.same("the row's turn", x.row(0, 3), 3);
        Check.same("no fault of the thread", x.thread(1, 2), 0);
        Check.same("its lock stays", x.unit(2, 0), 1);
        Check.same("it goes on", x.thread(1, 1), 2);
        Scene.steps(x, "the next act", 1, Scene.DONE, Scene.END);
        Scene.steps(x, "the first one ends", 0, Scene.END);
        Check.same("an ended one has its call still", x.callAt(0, 1), 0);
        x.restart(1);
        Scene.steps(x, "an ended one's call", 1, Scene.DONE, Scene.TOLD);
    }

    private static void sends() {
        ServiceThreads x = new ServiceThreads();
        Scene.program(x, 0, "lock 0; lock 9; take 0; take 15; send 0 15; send 9 0; free 9");
        for (int i = 0; i < 16; i++) {
            x.call(0);
        }
        Scene.steps(x, "sent", 0, 1, 1, 1, 1, 1, 1);
        Check.same("unit 0 is sent", x.unit(0, 1), 15);
        Check.same("unit 9 is sent", x.unit(9, 1), 0);
        Check.same("call 15 has", x.callAt(15, 2), 0);
        Check.same("call 0 has", x.callAt(0, 2), 9);
        Check.same("units sent", x.count(3), 2);
        Scene.steps(x, "freed", 0, Scene.DONE);
        Check.same("a freed unit stays sent", x.unit(9, 1), 0);
        x.kill(0);
        x.restart(0);
        Check.same("a restart leaves it sent", x.unit(9, 1), 0);
    }

    private static void refusesToSend() {
        sendsWrongly("the unit is free", "take 0; send 2 0");
        sendsWrongly("the unit was freed", "lock 2; take 0; free 2; send 2 0");
        sendsWrongly("nobody has the call", "lock 2; send 2 0");
        sendsWrongly("the call is closed", "lock 2; take 0; close 0; send 2 0");
        sendsWrongly("none such call", "lock 2; take 0; send 2 2");
        sendsWrongly("none such unit", "lock 9; take 0; send 10 0");
        sendsWrongly("the highest unit", "lock 9; take 0; send 15 0");
        sendsWrongly("the unit is sent", "lock 2; take 0; take 1; send 2 0; send 2 1");
        sendsWrongly("the call has one", "lock 2; lock 3; take 0; send 2 0; send 3 0");
        sendsWrongly("sent so already", "lock 2; take 0; send 2 0; send 2 0");
        ServiceThreads x = new ServiceThreads();
        Scene.program(x, 0, "lock 2; take 0");
        Scene.program(x, 1, "lock 3; send 3 0");
        Scene.program(x, 2, "take 1; send 2 1");
        x.call(0);
        x.call(0);
        x.run(0x2100L, 4);
        Scene.fault(x, "another has the call", 1, 4);
        Scene.fault(x, "another has the unit", 2, 4);
        Check.same("nothing is sent", x.count(3), 0);
    }

    private static void sendsWrongly(String name, String acts) {
        ServiceThreads x = new ServiceThreads();
        Scene.program(x, 0, acts);
        x.call(0);
        x.call(0);
        int before = acts.split(";").length - 1;
        Check.same(name + ": acts ahead of it", x.run(0L, before), before);
        int sent = x.count(3);
        Scene.fault(x, name, 0, 4);
        Check.same(name + ": units sent", x.count(3), sent);
    }

    private static void closes() {
        ServiceThreads x = new ServiceThreads();
        Scene.program(x, 0, "lock 2; take 0; take 1; send 2 0; close 1; close 0");
        x.call(0);
        x.call(0);
        x.run(0L, 4);
        Scene.steps(x, "without a unit", 0, Scene.DONE);
        Check.same("it is closed", x.callAt(1, 3), 0);
        Check.same("the other call's unit stays sent", x.unit(2, 1), 0);
        Scene.steps(x, "with a unit", 0, Scene.DONE);
        Check.same("its unit is not sent any more", x.unit(2, 1), Scene.NOBODY);
        Check.same("it has no unit any more", x.callAt(0, 2), Scene.NOBODY);
        Check.same("who had it when it was closed", x.callAt(0, 1), 0);
        Check.same("the unit is locked still", x.unit(2, 0), 0);
        Check.same("open calls", x.count(4), 0);
        ServiceThreads y = new ServiceThreads();
        Scene.program(y, 0, "lock 0; lock 9; take 0; take 1; send 0 0; send 9 1; close 0; close 1");
        y.call(0);
        y.call(0);
        Check.same("the lowest and the highest unit", y.run(0L, 8), 8);
        Check.same("unit 0 is not sent any more", y.unit(0, 1), Scene.NOBODY);
        Check.same("unit 9 is not sent any more", y.unit(9, 1), Scene.NOBODY);
    }

    private static void refusesToClose() {
        ServiceThreads x = new ServiceThreads();
        Scene.program(x, 0, "take 0; close 0; close 0");
        Scene.program(x, 1, "close 1");
        Scene.program(x, 2, "take 1");
        Scene.program(x, 3, "close 1");
        Scene.program(x, 4, "close 2");
        Scene.program(x, 5, "close 255");
        x.call(0);
        x.call(0);
        x.run(0L, 2);
        Scene.fault(x, "a closed one", 0, 4);
        Scene.fault(x, "one that nobody has", 1, 4);
        x.step(2);
        Scene.fault(x, "another's", 3, 4);
        Scene.fault(x, "none such", 4, 4);
        Scene.fault(x, "none such, by far", 5, 4);
        Check.same("call 1 is open", x.callAt(1, 3), 1);
    }

    private static void rests() {
        ServiceThreads x = new ServiceThreads();
        Scene.program(x, 0, "rest 0; rest 1; rest 2");
        Scene.steps(x, "0: at once", 0, Scene.DONE);
        Scene.steps(x, "1", 0, Scene.RESTS);
        Check.same("left of 1", x.thread(0, 4), 1);
        Scene.steps(x, "1 is done", 0, Scene.DONE);
        Check.same("none is left", x.thread(0, 4), 0);
        Scene.steps(x, "2", 0, Scene.RESTS, Scene.RESTS);
        Check.same("it stays at its act", x.thread(0, 1), 2);
        Scene.steps(x, "2 is done", 0, Scene.DONE, Scene.END);
    }

    private static void fails() {
        ServiceThreads x = new ServiceThreads();
        Scene.program(x, 0, "fail 255");
        Scene.fault(x, "fail", 0, 5);
    }

    private static void faultsUndo() {
        ServiceThreads x = new ServiceThreads();
        Scene.program(x, 0, "lock 2; lock 3; take 0; take 1; take 2; send 3 1; close 2; fail; rest 0");
        Scene.program(x, 1, "lock 4; take 3");
        x.call(0);
        x.call(0);
        x.call(0);
        x.call(0);
        x.run(0x11L, 2);
        x.run(0L, 7);
        Check.same("units locked ahead of it", x.thread(0, 3), 2);
        Scene.fault(x, "a fault", 0, 5);
        Check.same("its locks are freed", x.thread(0, 3), 0);
        Check.same("a call without a unit", x.callAt(0, 1), Scene.NOBODY);
        Check.same("a call with a unit stays", x.callAt(1, 1), 0);
        Check.same("its unit stays sent", x.unit(3, 1), 1);
        Check.same("a closed call stays", x.callAt(2, 1), 0);
        Check.same("another's lock stays", x.unit(4, 0), 1);
        Check.same("another's call stays", x.callAt(3, 1), 1);
        Check.same("its latest fault", x.thread(0, 2), 5);
        Check.same("it goes on behind all", x.thread(0, 1), 9);
    }

    private static void ends() {
        ServiceThreads x = new ServiceThreads();
        Scene.program(x, 0, "lock 2; take 0; rest 0");
        x.call(0);
        x.run(0L, 3);
        Check.same("it runs behind its last act", x.thread(0, 0), Scene.RUNNING);
        Check.same("behind all", x.thread(0, 1), 3);
        Scene.steps(x, "the turn behind all", 0, Scene.END);
        Check.same("it ended", x.thread(0, 0), Scene.ENDED);
        Check.same("its lock is freed", x.unit(2, 0), Scene.NOBODY);
        Check.same("its call stays", x.callAt(0, 1), 0);
        Check.same("its act", x.thread(0, 1), 3);
        Scene.steps(x, "without acts", 1, Scene.END);
        Check.same("turns that end count", x.count(0), 5);
        Check.same("an end is not told", x.count(1), 0);
    }

    private static void refusesInOrder() {
        ServiceThreads x = new ServiceThreads();
        Scene.program(x, 1, "rest 0");
        x.step(0);
        x.kill(1);
        for (int thread : new int[] {-1, 8, Integer.MIN_VALUE, Integer.MAX_VALUE}) {
            Check.refuses("thread " + thread, IllegalArgumentException.class, () -> x.step(thread));
        }
        Check.refuses("an ended one", IllegalStateException.class, () -> x.step(0));
        Check.refuses("a dead one", IllegalStateException.class, () -> x.step(1));
        Check.same("refused turns do not count", x.count(0), 1);
    }
}
