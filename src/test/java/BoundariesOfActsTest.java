/** The boundary cases of the acts in 'Terms': a test for each sentence that names one. */
public final class BoundariesOfActsTest {
    public static void main(String[] args) {
        Check.sentence("LOCK a unit: free ones are locked by it", BoundariesOfActsTest::lockFree);
        Check.sentence("one that another has makes it WAIT (the turn is passed over)",
                BoundariesOfActsTest::lockWaits);
        Check.sentence("one that it has: FAULT 1", BoundariesOfActsTest::lockItsOwn);
        Check.sentence("one below some that it has: fault 2 (ahead of waiting)",
                BoundariesOfActsTest::lockBelow);
        Check.sentence("FREE a unit that it has locked; otherwise fault 3", BoundariesOfActsTest::free);
        Check.sentence("TAKE a call: fault 6 when there is none such, or it is closed",
                BoundariesOfActsTest::takeNone);
        Check.sentence("it has it then", BoundariesOfActsTest::take);
        Check.sentence("when another has it, that is TOLD (a row), and nothing else",
                BoundariesOfActsTest::takeTold);
        Check.sentence("SEND: unit (number / 16) to call (number modulo 16)", BoundariesOfActsTest::sendNumbers);
        Check.sentence("it has the unit locked and has the open call, the unit is not sent, the call has"
                + " none; otherwise fault 4", BoundariesOfActsTest::sendOtherwise);
        Check.sentence("CLOSE a call that it has, open; otherwise fault 4", BoundariesOfActsTest::close);
        Check.sentence("Its unit, if there is one, is not sent any more", BoundariesOfActsTest::closeUnit);
        Check.sentence("REST so many of its turns: with 0 it is done at once", BoundariesOfActsTest::restZero);
        Check.sentence("else this turn begins it, and each further one is one of them; with the last one"
                + " it is done", BoundariesOfActsTest::restTurns);
        Check.sentence("of its turns", BoundariesOfActsTest::restItsTurns);
        Check.sentence("by a call of a rank above those of all open calls that it has",
                BoundariesOfActsTest::interruptedFromAbove);
        Check.sentence("of all open calls that it has", BoundariesOfActsTest::interruptedByOpenCalls);
        Check.sentence("while it rests", BoundariesOfActsTest::interruptedWhileItRests);
        Check.sentence("begins anew with its next turn (which is none of them)",
                BoundariesOfActsTest::beginsAnew);
        Check.sentence("FAIL: fault 5", BoundariesOfActsTest::fail);
        Check.sentence("a unit above 9 is fault 4 for 3, fault 3 for 0 and 1", BoundariesOfActsTest::unitsAboveNine);
        Check.end();
    }

    private static void lockFree() {
        for (int unit = 0; unit <= 9; unit++) {
            ServiceThreads x = new ServiceThreads();
            Scene.program(x, 7, "lock " + unit);
            Scene.steps(x, "unit " + unit, 7, Scene.DONE);
            Check.same("who has unit " + unit, x.unit(unit, 0), 7);
            Check.same("units locked", x.count(5), 1);
            Check.same("its next act", x.thread(7, 1), 1);
        }
    }

    private static void lockWaits() {
        ServiceThreads x = new ServiceThreads();
        Scene.program(x, 0, "lock 0; free 0");
        Scene.program(x, 1, "lock 0; rest 0");
        x.step(0);
        Scene.steps(x, "while another has it", 1, Scene.PASSED_OVER, Scene.PASSED_OVER);
        Check.same("it stays at its act", x.thread(1, 1), 0);
        Check.same("without a fault", x.thread(1, 2), 0);
        Check.same("the other one has it still", x.unit(0, 0), 0);
        x.step(0);
        Scene.steps(x, "once it is free", 1, Scene.DONE);
        ServiceThreads y = new ServiceThreads();
        Scene.program(y, 0, "lock 9");
        Scene.program(y, 1, "lock 8; lock 9");
        y.step(0);
        y.kill(0);
        Scene.steps(y, "one that a dead one has", 1, Scene.DONE, Scene.PASSED_OVER);
        Check.same("one that waits keeps its locks", y.unit(8, 0), 1);
    }

    private static void lockItsOwn() {
        for (int unit : new int[] {0, 9}) {
            ServiceThreads x = new ServiceThreads();
            Scene.program(x, 0, "lock " + unit + "; lock " + unit);
            x.step(0);
            Scene.fault(x, "unit " + unit, 0, 1);
        }
        ServiceThreads y = new ServiceThreads();
        Scene.program(y, 0, "lock 0; lock 9; lock 0");
        y.run(0L, 2);
        Scene.fault(y, "its own, with one above it", 0, 1);
    }

    private static void lockBelow() {
        ServiceThreads x = new ServiceThreads();
        Scene.program(x, 0, "lock 9; lock 8");
        x.step(0);
        Scene.fault(x, "just below", 0, 2);
        ServiceThreads y = new ServiceThreads();
        Scene.program(y, 0, "lock 9; lock 0");
        y.step(0);
        Scene.fault(y, "the lowest below the highest", 0, 2);
        ServiceThreads z = new ServiceThreads();
        Scene.program(z, 0, "lock 3; lock 5; lock 4");
        z.run(0L, 2);
        Scene.fault(z, "between two of its own", 0, 2);
        ServiceThreads waiting = new ServiceThreads();
        Scene.program(waiting, 0, "lock 4");
        Scene.program(waiting, 1, "lock 5; lock 4");
        waiting.run(0x10L, 2);
        Scene.fault(waiting, "ahead of waiting", 1, 2);
        Check.same("the other one's stays", waiting.unit(4, 0), 0);
        ServiceThreads others = new ServiceThreads();
        Scene.program(others, 0, "lock 9");
        Scene.program(others, 1, "lock 8");
        others.step(0);
        Scene.steps(others, "below another's alone", 1, Scene.DONE);
        ServiceThreads freed = new ServiceThreads();
        Scene.program(freed, 0, "lock 9; free 9; lock 0; lock 1");
        Scene.steps(freed, "below one that it had, just above", 0, 1, 1, 1, 1);
    }

    private static void free() {
        ServiceThreads x = new ServiceThreads();
        Scene.program(x, 0, "lock 0; lock 9; free 0; free 9; free 9");
        Scene.steps(x, "the lowest and the highest", 0, 1, 1, 1, 1);
        Check.same("none is locked", x.count(5), 0);
        Scene.fault(x, "once more", 0, 3);
        ServiceThreads y = new ServiceThreads();
        Scene.program(y, 0, "lock 4");
        Scene.program(y, 1, "free 4");
        y.step(0);
        Scene.fault(y, "another's", 1, 3);
        Check.same("another's stays", y.unit(4, 0), 0);
        ServiceThreads z = new ServiceThreads();
        Scene.program(z, 0, "free 0");
        Scene.fault(z, "one that none has", 0, 3);
    }

    private static void takeNone() {
        ServiceThreads x = new ServiceThreads();
        Scene.program(x, 0, "take 0");
        Scene.fault(x, "no calls at all", 0, 6);
        ServiceThreads y = new ServiceThreads();
        Scene.program(y, 0, "take 1");
        y.call(0);
        Scene.fault(y, "just behind the last call", 0, 6);
        ServiceThreads full = new ServiceThreads();
        Scene.program(full, 0, "take 15; take 16");
        Scene.program(full, 1, "take 255");
        for (int i = 0; i < 16; i++) {
            full.call(0);
        }
        Scene.steps(full, "the last of 16", 0, Scene.DONE);
        Scene.fault(full, "behind 16", 0, 6);
        Scene.fault(full, "the highest number", 1, 6);
        ServiceThreads closed = new ServiceThreads();
        Scene.program(closed, 0, "take 0; close 0; take 0");
        Scene.program(closed, 1, "take 0");
        closed.call(0);
        closed.run(0L, 2);
        Scene.fault(closed, "a closed one that another had is not told", 1, 6);
        Scene.fault(closed, "a closed one that it had", 0, 6);
        Check.same("who had it", closed.callAt(0, 1), 0);
    }

    private static void take() {
        ServiceThreads x = new ServiceThreads();
        Scene.program(x, 7, "take 0; take 0");
        x.call(0);
        Scene.steps(x, "had by none, then its own", 7, Scene.DONE, Scene.DONE);
        Check.same("it has it", x.callAt(0, 1), 7);
        Check.same("nothing is told", x.count(1), 0);
        ServiceThreads late = new ServiceThreads();
        Scene.program(late, 0, "rest 1; take 0");
        late.step(0);
        late.call(0);
        late.run(0L, 16);
        Check.same("one that came behind the act was made", late.callAt(0, 1), 0);
    }

    private static void takeTold() {
        ServiceThreads x = new ServiceThreads();
        Scene.program(x, 0, "take 0; rest 9");
        Scene.program(x, 1, "lock 3; take 1; take 0; rest 0");
        x.finish(1, 3);
        Scene.calls(x, 0, 0);
        x.step(0);
        Scene.steps(x, "two takers on one call", 1, Scene.DONE, Scene.DONE, Scene.TOLD);
        Scene.latestRow(x, "the row", 1, 0, 2);
        Check.same("who has it", x.callAt(0, 1), 0);
        Check.same("its locks stay", x.unit(3, 0), 1);
        Check.same("its calls stay", x.callAt(1, 1), 1);
        Check.same("no fault", x.thread(1, 2), 0);
        Check.same("it goes on to the next act", x.thread(1, 1), 3);
        Check.same("it runs", x.thread(1, 0), Scene.RUNNING);
    }

    private static void sendNumbers() {
        ServiceThreads x = new ServiceThreads();
        x.act(0, 0, 0);
        x.act(0, 0, 9);
        x.act(0, 2, 0);
        x.act(0, 2, 15);
        x.act(0, 3, 0);
        x.act(0, 3, 159);
        for (int i = 0; i < 16; i++) {
            x.call(0);
        }
        Check.same("0 is unit 0 to call 0, 159 is unit 9 to call 15", x.run(0L, 6), 6);
        Check.same("unit 0", x.unit(0, 1), 0);
        Check.same("unit 9", x.unit(9, 1), 15);
        Check.same("call 0", x.callAt(0, 2), 0);
        Check.same("call 15", x.callAt(15, 2), 9);
        Check.same("units sent", x.count(3), 2);
        ServiceThreads y = new ServiceThreads();
        y.act(0, 0, 0);
        y.act(0, 0, 1);
        y.act(0, 2, 0);
        y.act(0, 3, 16);
        y.call(0);
        Check.same("16 is unit 1 to call 0", y.run(0L, 4), 4);
        Check.same("unit 1", y.unit(1, 1), 0);
        Check.same("unit 0 is not sent", y.unit(0, 1), Scene.NOBODY);
        Check.same("a sent unit is locked still", y.unit(1, 0), 0);
    }

    private static void sendOtherwise() {
        sendFault("the unit is free", "take 0; send 2 0");
        sendFault("the unit is not locked any more", "lock 2; take 0; free 2; send 2 0");
        sendFault("none has the call", "lock 2; send 2 0");
        sendFault("the call is closed", "lock 2; take 0; close 0; send 2 0");
        sendFault("there is no such call", "lock 2; take 0; send 2 2");
        sendFault("call 15 of two", "lock 2; take 0; send 2 15");
        sendFault("the unit is sent", "lock 2; take 0; take 1; send 2 0; send 2 1");
        sendFault("the call has a unit", "lock 2; lock 3; take 0; send 2 0; send 3 0");
        sendFault("the same once more", "lock 2; take 0; send 2 0; send 2 0");
        sendFault("the unit is sent, freed and locked", "lock 2; take 0; take 1; send 2 0; free 2; lock 2; send 2 1");
        ServiceThreads x = new ServiceThreads();
        Scene.program(x, 0, "lock 2; take 0");
        Scene.program(x, 1, "lock 3; send 3 0");
        Scene.program(x, 2, "take 1; send 2 1");
        Scene.calls(x, 0, 0);
        x.run(0x2100L, 4);
        Scene.fault(x, "another has the call", 1, 4);
        Scene.fault(x, "another has the unit", 2, 4);
        Check.same("nothing is sent", x.count(3), 0);
        ServiceThreads again = new ServiceThreads();
        Scene.program(again, 0, "lock 2; take 0; send 2 0; close 0; take 1; send 2 1");
        Scene.calls(again, 0, 0);
        Check.same("once its call is closed a unit can be sent again", again.run(0L, 6), 6);
        Check.same("to call 1", again.unit(2, 1), 1);
    }

    private static void sendFault(String name, String acts) {
        ServiceThreads x = new ServiceThreads();
        Scene.program(x, 0, acts);
        Scene.calls(x, 0, 0);
        int ahead = acts.split(";").length - 1;
        Check.same(name + ": acts ahead of it", x.run(0L, ahead), ahead);
        int sent = x.count(3);
        Scene.fault(x, name, 0, 4);
        Check.same(name + ": units sent", x.count(3), sent);
    }

    private static void close() {
        ServiceThreads x = new ServiceThreads();
        Scene.program(x, 0, "take 0; close 0; close 0");
        Scene.program(x, 1, "close 1");
        Scene.program(x, 2, "take 1; rest 0");
        Scene.program(x, 3, "close 1");
        Scene.program(x, 4, "close 16");
        Scene.program(x, 5, "close 255");
        Scene.program(x, 6, "take 15; close 15");
        for (int i = 0; i < 16; i++) {
            x.call(0);
        }
        Scene.steps(x, "open and its own", 0, Scene.DONE, Scene.DONE);
        Scene.fault(x, "closed", 0, 4);
        Scene.fault(x, "had by none", 1, 4);
        x.step(2);
        Scene.fault(x, "another's", 3, 4);
        Scene.fault(x, "behind 16", 4, 4);
        Scene.fault(x, "the highest number", 5, 4);
        Scene.steps(x, "the last of 16", 6, Scene.DONE, Scene.DONE);
        Check.same("open calls", x.count(4), 14);
        Check.same("call 1 is open", x.callAt(1, 3), 1);
        ServiceThreads none = new ServiceThreads();
        Scene.program(none, 0, "close 0");
        Scene.fault(none, "no calls at all", 0, 4);
    }

    private static void closeUnit() {
        ServiceThreads x = new ServiceThreads();
        Scene.program(x, 0, "lock 0; lock 9; take 0; take 1; take 2; send 0 0; send 9 1; close 2; close 0; close 1");
        Scene.calls(x, 0, 0, 0);
        x.run(0L, 7);
        Scene.steps(x, "a call without a unit", 0, Scene.DONE);
        Check.same("both are sent still", x.count(3), 2);
        Scene.steps(x, "the call of unit 0", 0, Scene.DONE);
        Check.same("unit 0 is not sent", x.unit(0, 1), Scene.NOBODY);
        Check.same("unit 9 is", x.unit(9, 1), 1);
        Scene.steps(x, "the call of unit 9", 0, Scene.DONE);
        Check.same("none is sent", x.count(3), 0);
        Check.same("closed calls have no unit", x.callAt(1, 2), Scene.NOBODY);
        Check.same("both are locked still", x.thread(0, 3), 2);
        ServiceThreads freed = new ServiceThreads();
        Scene.program(freed, 0, "lock 4; take 0; send 4 0; free 4; close 0");
        freed.call(0);
        Check.same("a unit that it has not locked any more", freed.run(0L, 5), 5);
        Check.same("is not sent any more", freed.unit(4, 1), Scene.NOBODY);
    }

    private static void restZero() {
        ServiceThreads x = new ServiceThreads();
        Scene.program(x, 0, "rest 0; rest 0; rest 1");
        Scene.steps(x, "with 0", 0, Scene.DONE, Scene.DONE);
        Check.same("nothing is left", x.thread(0, 4), 0);
        x.call(3);
        Scene.steps(x, "a call between rests", 0, Scene.RESTS, Scene.DONE);
        Check.same("none began anew", x.thread(0, 5), 0);
    }

    private static void restTurns() {
        for (int turns : new int[] {1, 2, 15, 255}) {
            ServiceThreads x = new ServiceThreads();
            Scene.program(x, 0, "rest " + turns + "; rest 1");
            for (int left = turns; left >= 1; left--) {
                Check.same("a rest of " + turns, x.step(0), Scene.RESTS);
                if (left < 3 || left > turns - 2) {
                    Check.same("left of " + turns, x.thread(0, 4), left);
                }
            }
            Check.same("its act", x.thread(0, 1), 0);
            Scene.steps(x, "the last one of " + turns, 0, Scene.DONE);
            Check.same("none is left", x.thread(0, 4), 0);
            Check.same("its next act", x.thread(0, 1), 1);
            Scene.steps(x, "the next rest begins by itself", 0, Scene.RESTS, Scene.DONE, Scene.END);
        }
    }

    private static void restItsTurns() {
        ServiceThreads x = new ServiceThreads();
        Scene.program(x, 0, "rest 2");
        Scene.program(x, 1, "rest 9");
        x.step(0);
        x.run(0x11111111L, 8);
        Check.same("others' turns are none of its own", x.thread(0, 4), 2);
        Scene.steps(x, "its own", 0, Scene.RESTS, Scene.DONE);
    }

    /** A thread that has open calls of these ranks and rests: how often a rest began anew by the call. */
    private static int anewBy(int rank, int... had) {
        ServiceThreads x = new ServiceThreads();
        for (int call = 0; call < had.length; call++) {
            x.call(had[call]);
            x.act(0, 2, call);
        }
        x.act(0, 5, 3);
        x.run(0L, had.length + 1);
        x.call(rank);
        x.step(0);
        return x.thread(0, 5);
    }

    private static void interruptedFromAbove() {
        for (int rank = 0; rank <= 3; rank++) {
            Check.same("rank " + rank + " without calls", anewBy(rank), 1);
            for (int had = 0; had <= 3; had++) {
                String name = "rank " + rank + " with a call of rank " + had;
                Check.same(name, anewBy(rank, had), rank > had ? 1 : 0);
            }
        }
        Check.same("above the first alone", anewBy(2, 1, 3), 0);
        Check.same("above the last alone", anewBy(2, 3, 1), 0);
        Check.same("above all", anewBy(3, 2, 0, 1), 1);
    }

    private static void interruptedByOpenCalls() {
        ServiceThreads x = new ServiceThreads();
        Scene.program(x, 0, "take 0; close 0; rest 2");
        x.call(3);
        x.run(0L, 3);
        x.call(0);
        x.step(0);
        Check.same("a closed call of rank 3 does not count", x.thread(0, 5), 1);
        ServiceThreads y = new ServiceThreads();
        Scene.program(y, 0, "rest 2");
        Scene.program(y, 1, "take 0; rest 2");
        y.call(3);
        y.run(0x110L, 3);
        y.call(0);
        y.run(0x10L, 2);
        Check.same("another's call does not count", y.thread(0, 5), 1);
        Check.same("its own does", y.thread(1, 5), 0);
        ServiceThreads z = new ServiceThreads();
        Scene.program(z, 0, "lock 1; take 0; send 1 0; rest 2");
        z.call(3);
        z.run(0L, 4);
        z.call(3);
        z.step(0);
        Check.same("one with a unit does", z.thread(0, 5), 0);
        ServiceThreads given = new ServiceThreads();
        Scene.program(given, 0, "take 0");
        Scene.program(given, 1, "rest 4");
        given.call(2);
        given.run(0x10L, 2);
        given.kill(0);
        given.call(2);
        given.step(1);
        Check.same("one that a dead one left to it does", given.thread(1, 5), 0);
        given.call(3);
        given.step(1);
        Check.same("a call above that one interrupts", given.thread(1, 5), 1);
    }

    private static void interruptedWhileItRests() {
        ServiceThreads x = new ServiceThreads();
        Scene.program(x, 0, "rest 1; lock 0; rest 1");
        x.call(3);
        Scene.steps(x, "ahead of the turn that begins it", 0, Scene.RESTS, Scene.DONE);
        x.call(3);
        Scene.steps(x, "behind the last one", 0, Scene.DONE);
        x.call(3);
        Scene.steps(x, "ahead of the next rest", 0, Scene.RESTS, Scene.DONE, Scene.END);
        x.call(3);
        x.restart(0);
        Scene.steps(x, "while it had ended", 0, Scene.RESTS, Scene.DONE);
        Check.same("never", x.thread(0, 5), 0);
        ServiceThreads dead = new ServiceThreads();
        Scene.program(dead, 0, "rest 1");
        dead.step(0);
        dead.kill(0);
        dead.call(3);
        dead.restart(0);
        Scene.steps(dead, "while it was dead", 0, Scene.RESTS, Scene.DONE);
        Check.same("never by a call while it was dead", dead.thread(0, 5), 0);
    }

    private static void beginsAnew() {
        ServiceThreads x = new ServiceThreads();
        Scene.program(x, 0, "rest 2");
        x.step(0);
        x.call(0);
        Check.same("not ahead of its next turn", x.thread(0, 5), 0);
        Scene.steps(x, "just begun", 0, Scene.RESTS);
        Check.same("all are left", x.thread(0, 4), 2);
        x.step(0);
        x.call(0);
        Scene.steps(x, "ahead of its last one", 0, Scene.RESTS);
        Check.same("all are left again", x.thread(0, 4), 2);
        x.call(0);
        x.call(3);
        Scene.steps(x, "two calls ahead of one turn", 0, Scene.RESTS);
        Check.same("once for both", x.thread(0, 5), 3);
        Check.same("its act", x.thread(0, 1), 0);
        Scene.steps(x, "to its end", 0, Scene.RESTS, Scene.DONE, Scene.END);
        Check.same("in all", x.thread(0, 5), 3);
        ServiceThreads one = new ServiceThreads();
        Scene.program(one, 0, "rest 1");
        one.step(0);
        one.call(0);
        Scene.steps(one, "a rest of 1", 0, Scene.RESTS, Scene.DONE);
    }

    private static void fail() {
        for (int number : new int[] {0, 255}) {
            ServiceThreads x = new ServiceThreads();
            x.act(0, 6, number);
            Scene.fault(x, "with " + number, 0, 5);
        }
    }

    private static void unitsAboveNine() {
        for (int unit : new int[] {10, 15}) {
            ServiceThreads x = new ServiceThreads();
            Scene.program(x, 0, "lock 9; lock " + unit);
            Scene.program(x, 1, "lock 8; free " + unit);
            Scene.program(x, 2, "lock 7; take 0; send " + unit + " 0");
            x.call(0);
            Check.same("acts ahead", x.run(0x2210L, 4), 4);
            Scene.fault(x, "lock " + unit, 0, 3);
            Scene.fault(x, "free " + unit, 1, 3);
            Scene.fault(x, "send " + unit, 2, 4);
            Check.same("all locks are freed", x.count(5), 0);
        }
        ServiceThreads y = new ServiceThreads();
        Scene.program(y, 0, "lock 255");
        Scene.program(y, 1, "free 255");
        Scene.program(y, 2, "take 15; send 15 15");
        for (int i = 0; i < 16; i++) {
            y.call(0);
        }
        y.step(2);
        Scene.fault(y, "lock 255", 0, 3);
        Scene.fault(y, "free 255", 1, 3);
        Scene.fault(y, "send 255", 2, 4);
    }
}
