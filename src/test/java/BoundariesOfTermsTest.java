/** The boundary cases of 'Terms', but for the acts: a test for each sentence that names one. */
public final class BoundariesOfTermsTest {
    private static final Class<IllegalArgumentException> UNKNOWN = IllegalArgumentException.class;
    private static final Class<IndexOutOfBoundsException> RANGE = IndexOutOfBoundsException.class;
    private static final Class<IllegalStateException> STATE = IllegalStateException.class;
    private static final Class<UnsupportedOperationException> ROOM = UnsupportedOperationException.class;

    public static void main(String[] args) {
        Check.sentence("An object is used for at most 512 calls after it has been made",
                BoundariesOfTermsTest::usedForAllItsCalls);
        Check.sentence("Refusals, in this order: an unknown number: IllegalArgumentException; a number"
                + " outside its range: IndexOutOfBoundsException; not in this state:"
                + " IllegalStateException; no room: UnsupportedOperationException",
                BoundariesOfTermsTest::refusalsInOrder);
        Check.sentence("What is refused changes nothing", BoundariesOfTermsTest::refusedIsNotSeen);
        Check.sentence("What is refused changes nothing", BoundariesOfTermsTest::refusedDoesNotActLater);
        Check.sentence("THREADS 0 .. 7", BoundariesOfTermsTest::threads);
        Check.sentence("a PROGRAM of ACTS 0, 1, .. (at most 16)", BoundariesOfTermsTest::acts);
        Check.sentence("each of a kind and a number (0 .. 255)", BoundariesOfTermsTest::kindsAndNumbers);
        Check.sentence("FINISH on (at first: behind all, always)", BoundariesOfTermsTest::finishAtFirst);
        Check.sentence("RUNNING (0, at first, at act 0), ENDED (1) or DEAD (2)", BoundariesOfTermsTest::states);
        Check.sentence("UNITS 0 .. 9 are LOCKED by a thread or none, SENT to a call or none",
                BoundariesOfTermsTest::units);
        Check.sentence("CALLS 0, 1, .. (at most 16) have a rank (0 .. 3)", BoundariesOfTermsTest::calls);
        Check.sentence("are HAD by a thread or none, have a unit or none, are OPEN until they are closed",
                BoundariesOfTermsTest::callsUntilClosed);
        Check.sentence("TURNS are counted (all of running threads)", BoundariesOfTermsTest::turns);
        Check.sentence("Ahead of the act, locks of dead ones that are due by this turn's number are freed",
                BoundariesOfTermsTest::dueLocks);
        Check.sentence("Behind its last act its turn ENDS it (its locks are freed)",
                BoundariesOfTermsTest::behindTheLastAct);
        Check.sentence("A FAULT leaves the act undone and is told (a row)", BoundariesOfTermsTest::faultUndone);
        Check.sentence("all its locks are freed, open calls that it has without a unit are had by none",
                BoundariesOfTermsTest::faultLocksAndCalls);
        Check.sentence("it goes on at its finish, if it was ahead of it, otherwise it ends",
                BoundariesOfTermsTest::faultGoesOn);
        Check.sentence("DEAD ones keep their locks for LEASE turns (0 .. 100; 10 at first)",
                BoundariesOfTermsTest::leases);
        Check.sentence("the turn whose number is that of the latest turn and the lease (0: at once) or a"
                + " later one", BoundariesOfTermsTest::leaseFromTheLatestTurn);
        Check.sentence("Open calls that it has go to the next running thread with acts",
                BoundariesOfTermsTest::heirs);
        Check.sentence("(by numbers, behind the highest from 0 on)", BoundariesOfTermsTest::heirsGoRound);
        Check.sentence("without one they are had by none", BoundariesOfTermsTest::noHeir);
        Check.sentence("ROWS 0, 1, .. (at most 100; no more are kept)", BoundariesOfTermsTest::rows);
        Check.sentence("tell a thread, 0 a call had by another one or the fault, the act, and the turn",
                BoundariesOfTermsTest::rowsTell);
        Check.end();
    }

    /** As many turns as 512 calls can give: the 512th call is answered like any other. */
    private static void usedForAllItsCalls() {
        ServiceThreads x = new ServiceThreads();
        for (int i = 0; i < 16; i++) {
            x.act(7, 5, 255);
        }
        int calls = 16;
        int turns = 0;
        while (calls < 511 && turns + 16 <= 16 * 256) {
            int due = (turns + 16) / 256 - turns / 256;
            Check.same("run " + calls, x.run(0x7777777777777777L, 16), due);
            turns += 16;
            calls++;
        }
        while (calls < 511) {
            Check.same("the act behind all", x.thread(7, 1), 16);
            calls++;
        }
        Check.same("the 512th call", x.count(0), 4096);
    }

    private static void refusalsInOrder() {
        ServiceThreads x = new ServiceThreads();
        for (int i = 0; i < 16; i++) {
            x.act(0, 5, 0);
            x.call(0);
        }
        x.step(0);
        Check.refuses("act: all four", UNKNOWN, () -> x.act(8, 7, 256));
        Check.refuses("act: the thread alone is unknown", UNKNOWN, () -> x.act(-1, 0, 256));
        Check.refuses("act: kind, number, state, room", UNKNOWN, () -> x.act(0, 7, 256));
        Check.refuses("act: number, state, room", RANGE, () -> x.act(0, 6, 256));
        Check.refuses("act: state, room", STATE, () -> x.act(0, 6, 255));
        Check.refuses("finish: all three", UNKNOWN, () -> x.finish(8, 17));
        Check.refuses("finish: range, state", RANGE, () -> x.finish(0, 17));
        Check.refuses("finish: state", STATE, () -> x.finish(0, 16));
        Check.refuses("call: range, room", RANGE, () -> x.call(4));
        Check.refuses("call: room", ROOM, () -> x.call(3));
        x.kill(0);
        x.restart(0);
        Check.refuses("act: number, room", RANGE, () -> x.act(0, 6, -1));
        Check.refuses("act: room", ROOM, () -> x.act(0, 6, 0));
    }

    /** Thread 0 rests with unit 2 locked and call 0; 1 ended behind a fault; 2 is dead with unit 4. */
    private static ServiceThreads busy() {
        ServiceThreads x = new ServiceThreads();
        Scene.program(x, 0, "lock 2; take 0; send 2 0; rest 9");
        Scene.program(x, 1, "fail; rest 0");
        x.finish(1, 0);
        Scene.program(x, 2, "lock 4; take 1; rest 9");
        Scene.calls(x, 1, 2, 0);
        x.run(0x22100000L, 8);
        x.kill(2);
        return x;
    }

    private static void refusedIsNotSeen() {
        ServiceThreads x = busy();
        String before = Scene.lookAtAll(x);
        Check.refuses("act", UNKNOWN, () -> x.act(3, 7, 0));
        Check.refuses("act", RANGE, () -> x.act(3, 0, 256));
        Check.refuses("act", STATE, () -> x.act(0, 0, 1));
        Check.refuses("finish", RANGE, () -> x.finish(3, 1));
        Check.refuses("finish", STATE, () -> x.finish(0, 1));
        Check.refuses("call", RANGE, () -> x.call(4));
        Check.refuses("step", UNKNOWN, () -> x.step(8));
        Check.refuses("step", STATE, () -> x.step(1));
        Check.refuses("run", RANGE, () -> x.run(0L, 17));
        Check.refuses("kill", UNKNOWN, () -> x.kill(-1));
        Check.refuses("kill", STATE, () -> x.kill(2));
        Check.refuses("restart", UNKNOWN, () -> x.restart(8));
        Check.refuses("restart", STATE, () -> x.restart(0));
        Check.refuses("lease", RANGE, () -> x.lease(101));
        Check.refuses("unit", UNKNOWN, () -> x.unit(10, 0));
        Check.refuses("callAt", UNKNOWN, () -> x.callAt(3, 0));
        Check.refuses("thread", UNKNOWN, () -> x.thread(0, 6));
        Check.refuses("row", UNKNOWN, () -> x.row(1, 0));
        Check.refuses("count", UNKNOWN, () -> x.count(6));
        Check.same("all that can be asked", Scene.lookAtAll(x), before);
    }

    private static void refusedDoesNotActLater() {
        ServiceThreads x = new ServiceThreads();
        Scene.program(x, 0, "rest 2");
        for (int i = 0; i < 16; i++) {
            x.call(0);
        }
        x.step(0);
        Check.refuses("a call without room", ROOM, () -> x.call(3));
        Check.refuses("a rank above 3", RANGE, () -> x.call(4));
        Scene.steps(x, "no rest is interrupted", 0, Scene.RESTS, Scene.DONE);
        ServiceThreads y = new ServiceThreads();
        Scene.program(y, 0, "fail; rest 0; rest 0");
        y.finish(0, 1);
        Check.refuses("a finish", RANGE, () -> y.finish(0, 4));
        Check.refuses("an act's number", RANGE, () -> y.act(0, 0, 256));
        Check.same("no act was added", y.act(0, 5, 0), 4);
        y.step(0);
        Check.same("the finish is as it was", y.thread(0, 1), 1);
        ServiceThreads z = new ServiceThreads();
        Scene.program(z, 0, "lock 2");
        Scene.program(z, 1, "rest 9");
        z.lease(2);
        z.step(0);
        z.kill(0);
        z.step(1);
        Check.refuses("a second death", STATE, () -> z.kill(0));
        Check.refuses("a dead one's turn", STATE, () -> z.step(0));
        Check.same("a refused turn frees nothing", z.unit(2, 0), 0);
        z.step(1);
        Check.same("the first death counts", z.unit(2, 0), Scene.NOBODY);
    }

    private static void threads() {
        ServiceThreads x = new ServiceThreads();
        for (int thread : new int[] {0, 7}) {
            Check.same("act", x.act(thread, 5, 0), 1);
            x.finish(thread, 1);
            Check.same("step", x.step(thread), Scene.DONE);
            x.kill(thread);
            x.restart(thread);
            Check.same("thread", x.thread(thread, 0), Scene.RUNNING);
        }
        for (int thread : Scene.outside(0, 7)) {
            Check.refuses("act of " + thread, UNKNOWN, () -> x.act(thread, 0, 0));
            Check.refuses("finish of " + thread, UNKNOWN, () -> x.finish(thread, 0));
            Check.refuses("step of " + thread, UNKNOWN, () -> x.step(thread));
            Check.refuses("kill of " + thread, UNKNOWN, () -> x.kill(thread));
            Check.refuses("restart of " + thread, UNKNOWN, () -> x.restart(thread));
            Check.refuses("thread " + thread, UNKNOWN, () -> x.thread(thread, 0));
        }
    }

    /** Full programs of all threads: each has its own acts, and none is another's. */
    private static void acts() {
        ServiceThreads x = new ServiceThreads();
        for (int act = 1; act <= 16; act++) {
            for (int thread = 0; thread <= 7; thread++) {
                int kind = act == 16 && thread % 2 == 0 ? 6 : 5;
                Check.same("act of thread " + thread, x.act(thread, kind, 0), act);
            }
        }
        for (int thread = 0; thread <= 7; thread++) {
            int full = thread;
            Check.refuses("a 17th act of thread " + thread, ROOM, () -> x.act(full, 6, 0));
            long schedule = thread * 0x1111111111111111L;
            Check.same("acts of thread " + thread, x.run(schedule, 16), thread % 2 == 0 ? 15 : 16);
            Check.same("behind all", x.thread(thread, 1), 16);
            Check.same("the 16th act", x.thread(thread, 2), thread % 2 == 0 ? 5 : 0);
            Scene.steps(x, "behind 16 acts", thread, Scene.END);
        }
    }

    private static void kindsAndNumbers() {
        ServiceThreads x = new ServiceThreads();
        for (int kind = 0; kind <= 6; kind++) {
            Check.same("kind " + kind + " with 0", x.act(0, kind, 0), 2 * kind + 1);
            Check.same("kind " + kind + " with 255", x.act(0, kind, 255), 2 * kind + 2);
            int known = kind;
            for (int number : Scene.outside(0, 255)) {
                Check.refuses("kind " + kind + " with " + number, RANGE, () -> x.act(0, known, number));
            }
        }
        for (int kind : Scene.outside(0, 6)) {
            Check.refuses("kind " + kind, UNKNOWN, () -> x.act(0, kind, 0));
        }
        Check.same("none was added", x.act(0, 5, 0), 15);
    }

    private static void finishAtFirst() {
        ServiceThreads x = new ServiceThreads();
        Scene.program(x, 0, "fail");
        for (int i = 0; i < 15; i++) {
            x.act(0, 6, 0);
        }
        Scene.steps(x, "no finishing part", 0, Scene.FAULT);
        Check.same("behind all 16", x.thread(0, 1), 16);
        Scene.steps(x, "behind all", 0, Scene.END);
        Check.same("one fault alone", x.count(1), 1);
    }

    private static void states() {
        ServiceThreads x = new ServiceThreads();
        for (int thread = 0; thread <= 7; thread++) {
            Check.same("at first", x.thread(thread, 0), 0);
            Check.same("at act", x.thread(thread, 1), 0);
        }
        x.step(0);
        x.kill(7);
        Check.same("ended", x.thread(0, 0), 1);
        Check.same("dead", x.thread(7, 0), 2);
    }

    private static void units() {
        ServiceThreads x = new ServiceThreads();
        Scene.program(x, 7, "lock 0; lock 1; lock 2; lock 3; lock 4; lock 5; lock 6; lock 7; lock 8; lock 9");
        Check.same("all ten, in order", x.run(0x7777777777L, 10), 10);
        for (int unit = 0; unit <= 9; unit++) {
            Check.same("who has unit " + unit, x.unit(unit, 0), 7);
            Check.same("unit " + unit + " is sent", x.unit(unit, 1), Scene.NOBODY);
        }
        Check.same("units locked", x.count(5), 10);
        Check.same("units of thread 7", x.thread(7, 3), 10);
        Scene.steps(x, "its end", 7, Scene.END);
        Check.same("units locked by none", x.count(5), 0);
        for (int unit : Scene.outside(0, 9)) {
            Check.refuses("unit " + unit, UNKNOWN, () -> x.unit(unit, 0));
        }
    }

    private static void calls() {
        ServiceThreads x = new ServiceThreads();
        for (int rank : Scene.outside(0, 3)) {
            Check.refuses("rank " + rank, RANGE, () -> x.call(rank));
        }
        for (int call = 0; call <= 15; call++) {
            int next = call;
            Check.refuses("ahead of call " + call, UNKNOWN, () -> x.callAt(next, 0));
            Check.same("call " + call, x.call(3 - call % 4), call);
            Check.same("its rank", x.callAt(call, 0), 3 - call % 4);
        }
        Check.refuses("a 17th", ROOM, () -> x.call(0));
        Check.refuses("call 16", UNKNOWN, () -> x.callAt(16, 0));
        Check.same("open calls", x.count(4), 16);
    }

    private static void callsUntilClosed() {
        ServiceThreads x = new ServiceThreads();
        Scene.program(x, 7, "lock 0; take 15; send 0 15; close 15");
        for (int i = 0; i < 16; i++) {
            x.call(0);
        }
        int[][] due = {{-1, -1, 1}, {7, -1, 1}, {7, 0, 1}, {7, -1, 0}};
        for (int[] answers : due) {
            x.step(7);
            for (int what = 1; what <= 3; what++) {
                Check.same("callAt(15, " + what + ")", x.callAt(15, what), answers[what - 1]);
            }
        }
        Scene.steps(x, "its end", 7, Scene.END);
        Check.same("who had it when it was closed", x.callAt(15, 1), 7);
        Check.same("open calls", x.count(4), 15);
    }

    /** One turn of each answer counts, and what is no turn does not. */
    private static void turns() {
        ServiceThreads x = new ServiceThreads();
        Scene.program(x, 0, "lock 1; take 0; rest 9");
        Scene.program(x, 1, "take 0; lock 1");
        Scene.program(x, 2, "fail");
        x.call(3);
        int[][] due = {{0, Scene.DONE}, {0, Scene.DONE}, {0, Scene.RESTS}, {1, Scene.TOLD},
            {1, Scene.PASSED_OVER}, {2, Scene.FAULT}, {2, Scene.END}, {3, Scene.END}};
        for (int i = 0; i < due.length; i++) {
            Scene.steps(x, "turn " + (i + 1), due[i][0], due[i][1]);
            Check.same("turns", x.count(0), i + 1);
        }
        x.kill(0);
        Check.same("threads that do not run", x.run(0x3320L, 4), 0);
        x.call(0);
        x.restart(0);
        x.lease(0);
        x.close();
        Check.same("none of these is a turn", x.count(0), 8);
    }

    /** A turn of any answer frees ahead of its act; thread 0 is dead with unit 5, due by turn 3. */
    private static ServiceThreads dueByTheThird(String acts) {
        ServiceThreads x = new ServiceThreads();
        Scene.program(x, 0, "lock 5");
        Scene.program(x, 1, "rest 0");
        Scene.program(x, 2, acts);
        x.lease(2);
        x.step(0);
        x.kill(0);
        x.step(1);
        Check.same("one turn is not enough", x.unit(5, 0), 0);
        return x;
    }

    private static void dueLocks() {
        ServiceThreads x = dueByTheThird("lock 5");
        Scene.steps(x, "it is free for this very act", 2, Scene.DONE);
        Check.same("locked anew", x.unit(5, 0), 2);
        ServiceThreads y = dueByTheThird("fail");
        Scene.steps(y, "a turn with a fault", 2, Scene.FAULT);
        Check.same("freed by a fault's turn", y.unit(5, 0), Scene.NOBODY);
        ServiceThreads z = dueByTheThird("rest 3");
        Scene.steps(z, "a turn that rests", 2, Scene.RESTS);
        Check.same("freed by a rest's turn", z.unit(5, 0), Scene.NOBODY);
        ServiceThreads end = dueByTheThird("rest 0");
        Scene.steps(end, "a turn that ends", 1, Scene.END);
        Check.same("freed by an end's turn", end.unit(5, 0), Scene.NOBODY);
        ServiceThreads free = dueByTheThird("free 5");
        Scene.fault(free, "freed, but not its own", 2, 3);
    }

    private static void behindTheLastAct() {
        ServiceThreads x = new ServiceThreads();
        Scene.program(x, 0, "lock 9");
        Scene.steps(x, "the last act", 0, Scene.DONE);
        Check.same("behind its last act it runs", x.thread(0, 0), Scene.RUNNING);
        Check.same("its lock", x.unit(9, 0), 0);
        Scene.steps(x, "the turn behind it", 0, Scene.END);
        Check.same("it ended", x.thread(0, 0), Scene.ENDED);
        Check.same("its lock is freed", x.unit(9, 0), Scene.NOBODY);
        Scene.steps(x, "without any act", 7, Scene.END);
        Check.same("it ended too", x.thread(7, 0), Scene.ENDED);
    }

    private static void faultUndone() {
        ServiceThreads x = new ServiceThreads();
        Scene.program(x, 3, "lock 6; lock 5");
        Scene.steps(x, "ahead of it", 3, Scene.DONE);
        Scene.fault(x, "undone", 3, 2);
        Check.same("unit 5", x.unit(5, 0), Scene.NOBODY);
        Check.same("one row", x.count(1), 1);
    }

    private static void faultLocksAndCalls() {
        ServiceThreads x = new ServiceThreads();
        Scene.program(x, 0, "lock 0; lock 9; take 0; take 1; take 14; take 15; send 9 14; close 1; fail");
        Scene.program(x, 1, "lock 5; take 7");
        for (int i = 0; i < 16; i++) {
            x.call(0);
        }
        x.run(0x0000000011L, 10);
        Scene.fault(x, "a fault", 0, 5);
        Check.same("the lowest lock", x.unit(0, 0), Scene.NOBODY);
        Check.same("the highest lock", x.unit(9, 0), Scene.NOBODY);
        Check.same("another's lock", x.unit(5, 0), 1);
        Check.same("the first call", x.callAt(0, 1), Scene.NOBODY);
        Check.same("the last call", x.callAt(15, 1), Scene.NOBODY);
        Check.same("a closed one", x.callAt(1, 1), 0);
        Check.same("one with a unit", x.callAt(14, 1), 0);
        Check.same("its unit stays sent", x.unit(9, 1), 14);
        Check.same("another's call", x.callAt(7, 1), 1);
    }

    private static void faultGoesOn() {
        for (int finish = 0; finish <= 4; finish++) {
            ServiceThreads x = new ServiceThreads();
            Scene.program(x, 0, "rest 0; rest 0; fail; rest 0");
            x.finish(0, finish);
            Scene.steps(x, "finish " + finish, 0, Scene.DONE, Scene.DONE, Scene.FAULT);
            boolean ahead = finish > 2;
            Check.same("finish " + finish, x.thread(0, 0), ahead ? Scene.RUNNING : Scene.ENDED);
            Check.same("act of finish " + finish, x.thread(0, 1), ahead ? finish : 2);
        }
        ServiceThreads y = new ServiceThreads();
        Scene.program(y, 0, "fail; free 0; rest 0");
        y.finish(0, 1);
        Scene.steps(y, "a fault, then one of the finish", 0, Scene.FAULT, Scene.FAULT);
        Check.same("the finish runs once", y.thread(0, 0), Scene.ENDED);
        Check.same("its latest fault", y.thread(0, 2), 3);
    }

    /** Turns that wait for the unit that a dead one has: one less than the lease. */
    private static int waits(int lease) {
        ServiceThreads x = new ServiceThreads();
        Scene.program(x, 0, "lock 2");
        Scene.program(x, 1, "lock 2");
        if (lease >= 0) {
            x.lease(lease);
        }
        x.step(0);
        x.kill(0);
        int waits = 0;
        while (waits < 200 && x.step(1) == Scene.PASSED_OVER) {
            waits++;
        }
        return waits;
    }

    private static void leases() {
        Check.same("at first: 10", waits(-1), 9);
        Check.same("0", waits(0), 0);
        Check.same("1", waits(1), 0);
        Check.same("2", waits(2), 1);
        Check.same("99", waits(99), 98);
        Check.same("100", waits(100), 99);
        ServiceThreads x = new ServiceThreads();
        for (int turns : Scene.outside(0, 100)) {
            Check.refuses("lease " + turns, RANGE, () -> x.lease(turns));
        }
    }

    private static void leaseFromTheLatestTurn() {
        ServiceThreads x = new ServiceThreads();
        Scene.program(x, 0, "lock 2");
        Scene.program(x, 1, "rest 255");
        x.step(0);
        x.run(0x1111111111111111L, 16);
        x.lease(2);
        x.kill(0);
        x.step(1);
        Check.same("turn 18 of 17 and 2", x.unit(2, 0), 0);
        x.step(1);
        Check.same("turn 19", x.unit(2, 0), Scene.NOBODY);
        ServiceThreads y = new ServiceThreads();
        Scene.program(y, 0, "lock 2");
        Scene.program(y, 1, "lock 3");
        y.run(0x10L, 2);
        y.kill(1);
        y.lease(0);
        y.kill(0);
        Check.same("0: at once, without a turn", y.unit(2, 0), Scene.NOBODY);
        Check.same("another dead one's lock has its own time", y.unit(3, 0), 1);
        ServiceThreads z = new ServiceThreads();
        z.lease(0);
        z.kill(3);
        Check.same("ahead of the first turn, without locks", z.thread(3, 0), Scene.DEAD);
    }

    private static void heirs() {
        ServiceThreads x = new ServiceThreads();
        Scene.program(x, 0, "take 0; take 1; lock 3; send 3 1; take 2; close 2");
        Scene.program(x, 2, "rest 0");
        Scene.program(x, 3, "rest 9");
        Scene.program(x, 4, "rest 0");
        Scene.program(x, 5, "rest 9");
        Scene.calls(x, 0, 0, 0);
        x.run(0x22000000L, 8);
        x.kill(3);
        x.step(4);
        x.kill(0);
        Check.same("not 1 without acts, 2 ended, 3 dead, but 4 behind its last act", x.callAt(0, 1), 4);
        Check.same("a call with a unit", x.callAt(1, 1), 4);
        Check.same("a closed one", x.callAt(2, 1), 0);
    }

    private static void heirsGoRound() {
        ServiceThreads x = new ServiceThreads();
        Scene.program(x, 7, "take 0");
        Scene.program(x, 0, "rest 0");
        Scene.program(x, 6, "rest 0");
        x.call(0);
        x.step(7);
        x.kill(7);
        Check.same("behind 7 comes 0", x.callAt(0, 1), 0);
        x.kill(0);
        Check.same("up to the one ahead of it", x.callAt(0, 1), 6);
        Scene.program(x, 5, "rest 0");
        x.kill(6);
        Check.same("round to the number just below", x.callAt(0, 1), 5);
    }

    private static void noHeir() {
        ServiceThreads x = new ServiceThreads();
        Scene.program(x, 3, "lock 1; take 0; take 1; send 1 1");
        Scene.calls(x, 0, 0);
        x.run(0x3333L, 4);
        x.kill(3);
        Check.same("without a unit", x.callAt(0, 1), Scene.NOBODY);
        Check.same("with a unit", x.callAt(1, 1), Scene.NOBODY);
        Check.same("its unit stays sent", x.callAt(1, 2), 1);
        x.restart(3);
        Check.same("it does not get them back", x.callAt(0, 1), Scene.NOBODY);
    }

    private static void rows() {
        ServiceThreads x = new ServiceThreads();
        Scene.program(x, 0, "take 0");
        x.call(0);
        x.step(0);
        Check.refuses("row 0 of none", UNKNOWN, () -> x.row(0, 0));
        for (int i = 0; i < 16; i++) {
            x.act(1, 2, 0);
        }
        for (int i = 0; i < 6; i++) {
            x.run(0x1111111111111111L, 16);
            x.kill(1);
            x.restart(1);
        }
        x.run(0x111L, 3);
        Check.same("99 are kept", x.count(1), 99);
        Check.refuses("row 99 of 99", UNKNOWN, () -> x.row(99, 0));
        x.step(1);
        Check.same("100 are kept", x.count(1), 100);
        Check.same("row 99", x.row(99, 3), 101);
        Scene.steps(x, "one more is told", 1, Scene.TOLD);
        Check.same("100 are kept still", x.count(1), 100);
        Check.refuses("row 100", UNKNOWN, () -> x.row(100, 0));
        Check.same("row 99 is as it was", x.row(99, 3), 101);
        Check.same("row 0 is as it was", x.row(0, 3), 2);
        Scene.program(x, 2, "lock 3; fail");
        Scene.steps(x, "a fault works without a row", 2, Scene.DONE, Scene.FAULT);
        Check.same("its lock is freed", x.unit(3, 0), Scene.NOBODY);
        Check.same("its fault", x.thread(2, 2), 5);
        Check.same("no row of it", x.count(1), 100);
    }

    private static void rowsTell() {
        ServiceThreads x = new ServiceThreads();
        Scene.program(x, 0, "take 0; rest 0");
        Scene.program(x, 7, "rest 0; take 0; fail");
        x.call(0);
        x.step(0);
        Scene.steps(x, "told", 7, Scene.DONE, Scene.TOLD);
        Scene.latestRow(x, "a call had by another one", 7, 0, 1);
        Scene.fault(x, "the fault", 7, 5);
        Check.same("rows", x.count(1), 2);
        Check.same("the first row stays", x.row(0, 1), 0);
    }
}
