import java.util.function.IntBinaryOperator;

/** The boundary cases of 'Promise 1' to 'Promise 15': a test for each sentence that names one. */
public final class BoundariesOfPromisesTest {
    private static final Class<IllegalArgumentException> UNKNOWN = IllegalArgumentException.class;
    private static final Class<IndexOutOfBoundsException> RANGE = IndexOutOfBoundsException.class;
    private static final Class<IllegalStateException> STATE = IllegalStateException.class;
    private static final Class<UnsupportedOperationException> ROOM = UnsupportedOperationException.class;

    public static void main(String[] args) {
        Check.sentence("1: No programs, no calls", BoundariesOfPromisesTest::newObject);
        act();
        finish();
        call();
        step();
        run();
        killAndRestart();
        leaseAndClose();
        asking();
        Check.end();
    }

    private static void act() {
        Check.sentence("2: One more act of a program: how many", BoundariesOfPromisesTest::actHowMany);
        Check.sentence("2: Unknown: no such thread or kind", BoundariesOfPromisesTest::actUnknown);
        Check.sentence("2: range: the number", BoundariesOfPromisesTest::actRange);
        Check.sentence("2: state: the thread had a turn since it began", BoundariesOfPromisesTest::actState);
        Check.sentence("2: no room: there are 16", BoundariesOfPromisesTest::actRoom);
    }

    private static void finish() {
        Check.sentence("3: acts from this one on finish", BoundariesOfPromisesTest::finishFrom);
        Check.sentence("3: as many as there are: behind all, always, also when more come",
                BoundariesOfPromisesTest::finishBehindAll);
        Check.sentence("3: Unknown: no such thread; range: it", BoundariesOfPromisesTest::finishRefused);
        Check.sentence("3: state: likewise", BoundariesOfPromisesTest::finishState);
    }

    private static void call() {
        Check.sentence("4: A new call: its number", BoundariesOfPromisesTest::callNumbers);
        Check.sentence("4: Range: the rank", BoundariesOfPromisesTest::callRange);
        Check.sentence("4: no room: there are 16", BoundariesOfPromisesTest::callRoom);
    }

    private static void step() {
        Check.sentence("5: 0 passed over, 1 done, 2 a call of another one told, 3 a fault, 4 it ended, 5 it rests",
                BoundariesOfPromisesTest::stepAnswers);
        Check.sentence("5: Unknown: no such thread; state: it does not run", BoundariesOfPromisesTest::stepRefused);
    }

    private static void run() {
        Check.sentence("6: n (0 .. 16) turns", BoundariesOfPromisesTest::runTurns);
        Check.sentence("6: of thread (bits 4 i .. 4 i + 2) each", BoundariesOfPromisesTest::runBits);
        Check.sentence("6: threads that do not run are passed over (no turn)",
                BoundariesOfPromisesTest::runPassesOver);
        Check.sentence("6: how many acts were done (1)", BoundariesOfPromisesTest::runDone);
        Check.sentence("6: Range: n", BoundariesOfPromisesTest::runRange);
    }

    private static void killAndRestart() {
        Check.sentence("7: A running thread dies", BoundariesOfPromisesTest::kill);
        Check.sentence("7: Unknown: no such thread; state: it does not run", BoundariesOfPromisesTest::killRefused);
        Check.sentence("8: A dead or ended one begins anew at act 0, without locks, not interrupted, without"
                + " a fault", BoundariesOfPromisesTest::restart);
        Check.sentence("8: calls that it has it keeps", BoundariesOfPromisesTest::restartKeepsCalls);
        Check.sentence("8: Unknown: no such thread; state: it runs", BoundariesOfPromisesTest::restartRefused);
    }

    private static void leaseAndClose() {
        Check.sentence("9: The lease", BoundariesOfPromisesTest::lease);
        Check.sentence("9: Range: it is not so", BoundariesOfPromisesTest::leaseRange);
        Check.sentence("10: Ends all that run, by numbers", BoundariesOfPromisesTest::closeHowMany);
        Check.sentence("10: their locks are freed; open calls that they have without a unit are had by none",
                BoundariesOfPromisesTest::closeLocksAndCalls);
        Check.sentence("10: frees locks of dead ones", BoundariesOfPromisesTest::closeDeadLocks);
    }

    private static void asking() {
        Check.sentence("11: 0 who has it locked (-1), 1 the call to which it is sent (-1)",
                BoundariesOfPromisesTest::unit);
        Check.sentence("11: Unknown: no such unit or what", BoundariesOfPromisesTest::unitUnknown);
        Check.sentence("12: who has it, or had it when it was closed (-1 for none), 2 its unit (-1)",
                BoundariesOfPromisesTest::callAt);
        Check.sentence("12: Unknown: no such call or what", BoundariesOfPromisesTest::callAtUnknown);
        Check.sentence("13: 1 its act (as many as there are: behind all)", BoundariesOfPromisesTest::threadAct);
        Check.sentence("13: 2 its latest fault since it began (0)", BoundariesOfPromisesTest::threadFault);
        Check.sentence("13: 3 units that it has locked", BoundariesOfPromisesTest::threadUnits);
        Check.sentence("13: 4 turns of a rest that are left (0)", BoundariesOfPromisesTest::threadRest);
        Check.sentence("13: 5 how many times a rest began anew (in all)", BoundariesOfPromisesTest::threadAnew);
        Check.sentence("13: Unknown: no such thread or what", BoundariesOfPromisesTest::threadUnknown);
        Check.sentence("14: 1 the fault (0: a call had by another one), 2 the act, 3 the turn",
                BoundariesOfPromisesTest::row);
        Check.sentence("14: Unknown: there is none such, or no such what", BoundariesOfPromisesTest::rowUnknown);
        Check.sentence("15: How many 0 turns, 1 rows, 2 running threads with acts, 3 units sent, 4 open calls,"
                + " 5 units locked", BoundariesOfPromisesTest::count);
        Check.sentence("15: Unknown: no such what", BoundariesOfPromisesTest::countUnknown);
    }

    private static ServiceThreads withSixteenCalls() {
        ServiceThreads x = new ServiceThreads();
        for (int i = 0; i < 16; i++) {
            x.call(0);
        }
        return x;
    }

    private static void newObject() {
        ServiceThreads x = new ServiceThreads();
        for (int what = 0; what <= 5; what++) {
            Check.same("count(" + what + ")", x.count(what), 0);
        }
        Check.refuses("call 0", UNKNOWN, () -> x.callAt(0, 0));
        Check.refuses("row 0", UNKNOWN, () -> x.row(0, 0));
        Check.same("a first call", x.call(0), 0);
        Check.same("a first act", x.act(0, 0, 0), 1);
        ServiceThreads y = new ServiceThreads();
        Check.same("threads without acts end", y.run(0x76543210L, 8), 0);
        for (int thread = 0; thread <= 7; thread++) {
            Check.same("thread " + thread, y.thread(thread, 0), Scene.ENDED);
        }
    }

    private static void actHowMany() {
        ServiceThreads x = new ServiceThreads();
        for (int thread : new int[] {0, 7}) {
            for (int act = 1; act <= 16; act++) {
                Check.same("thread " + thread, x.act(thread, 5, 0), act);
            }
        }
        Check.same("a thread between them", x.act(1, 5, 0), 1);
    }

    private static void actUnknown() {
        ServiceThreads x = new ServiceThreads();
        for (int thread : Scene.outside(0, 7)) {
            Check.refuses("thread " + thread, UNKNOWN, () -> x.act(thread, 0, 0));
        }
        for (int kind : Scene.outside(0, 6)) {
            Check.refuses("kind " + kind, UNKNOWN, () -> x.act(0, kind, 0));
        }
        Check.same("the highest of both", x.act(7, 6, 0), 1);
    }

    private static void actRange() {
        ServiceThreads x = new ServiceThreads();
        for (int number : Scene.outside(0, 255)) {
            Check.refuses("number " + number, RANGE, () -> x.act(0, 5, number));
        }
        Check.same("0", x.act(0, 5, 0), 1);
        Check.same("255", x.act(0, 5, 255), 2);
        x.run(0L, 2);
        Check.same("a rest of 255 is kept as such", x.thread(0, 4), 255);
    }

    private static void actState() {
        ServiceThreads x = new ServiceThreads();
        Scene.program(x, 0, "lock 1");
        Scene.program(x, 1, "lock 1");
        Scene.program(x, 2, "rest 5");
        Scene.program(x, 3, "fail");
        x.run(0x3210L, 4);
        for (int thread = 0; thread <= 3; thread++) {
            int one = thread;
            Check.refuses("a turn of any kind: thread " + thread, STATE, () -> x.act(one, 0, 0));
        }
        x.step(4);
        Check.refuses("one that ended without acts", STATE, () -> x.act(4, 0, 0));
        x.kill(0);
        Check.refuses("a dead one that had a turn", STATE, () -> x.act(0, 0, 0));
        x.restart(0);
        Check.same("one that began anew", x.act(0, 0, 2), 2);
        x.restart(4);
        Check.same("one that began anew without acts", x.act(4, 5, 0), 1);
        Scene.steps(x, "and does it", 4, Scene.DONE, Scene.END);
        x.run(0L, 0);
        Check.same("a schedule of no turns", x.act(7, 5, 0), 1);
    }

    private static void actRoom() {
        ServiceThreads x = new ServiceThreads();
        for (int i = 0; i < 16; i++) {
            x.act(0, 5, 0);
        }
        Check.refuses("a 17th", ROOM, () -> x.act(0, 5, 0));
        Check.refuses("once more", ROOM, () -> x.act(0, 0, 255));
        Check.same("16 are done", x.run(0L, 16), 16);
        Scene.steps(x, "there is no 17th", 0, Scene.END);
        x.restart(0);
        Check.refuses("begun anew", ROOM, () -> x.act(0, 5, 0));
    }

    private static void finishFrom() {
        ServiceThreads x = new ServiceThreads();
        for (int i = 0; i < 16; i++) {
            x.act(0, 6, 0);
        }
        x.finish(0, 15);
        Scene.steps(x, "the last of 16", 0, Scene.FAULT);
        Check.same("it goes on there", x.thread(0, 1), 15);
        Scene.steps(x, "a fault there", 0, Scene.FAULT);
        Check.same("it ended", x.thread(0, 0), Scene.ENDED);
        ServiceThreads y = new ServiceThreads();
        Scene.program(y, 0, "fail; rest 0");
        y.finish(0, 0);
        Scene.steps(y, "from the first on", 0, Scene.FAULT);
        Check.same("nothing is ahead of it", y.thread(0, 0), Scene.ENDED);
        ServiceThreads z = new ServiceThreads();
        Scene.program(z, 0, "lock 1; free 1");
        z.finish(0, 1);
        Scene.steps(z, "without a fault it is done like any act", 0, Scene.DONE, Scene.DONE, Scene.END);
    }

    private static void finishBehindAll() {
        ServiceThreads x = new ServiceThreads();
        Scene.program(x, 0, "fail; rest 0");
        x.finish(0, 2);
        Scene.program(x, 0, "rest 0");
        x.step(0);
        Check.same("one more came", x.thread(0, 1), 3);
        ServiceThreads none = new ServiceThreads();
        none.finish(0, 0);
        Scene.program(none, 0, "fail; rest 0");
        none.step(0);
        Check.same("0 of none", none.thread(0, 1), 2);
        Check.same("it runs", none.thread(0, 0), Scene.RUNNING);
        ServiceThreads full = new ServiceThreads();
        for (int i = 0; i < 16; i++) {
            full.act(7, 6, 0);
        }
        full.finish(7, 3);
        full.finish(7, 16);
        full.step(7);
        Check.same("16 of 16, set anew", full.thread(7, 1), 16);
        ServiceThreads act = new ServiceThreads();
        Scene.program(act, 0, "fail; rest 0");
        act.finish(0, 1);
        Scene.program(act, 0, "rest 0");
        act.step(0);
        Check.same("one less than there are stays that act", act.thread(0, 1), 1);
    }

    private static void finishRefused() {
        ServiceThreads x = new ServiceThreads();
        Scene.program(x, 0, "fail; rest 0; rest 0");
        x.finish(0, 1);
        for (int thread : Scene.outside(0, 7)) {
            Check.refuses("thread " + thread, UNKNOWN, () -> x.finish(thread, 0));
        }
        for (int act : Scene.outside(0, 3)) {
            Check.refuses("act " + act, RANGE, () -> x.finish(0, act));
        }
        for (int act : Scene.outside(0, 0)) {
            Check.refuses("act " + act + " of none", RANGE, () -> x.finish(7, act));
        }
        x.step(0);
        Check.same("the finish is as it was", x.thread(0, 1), 1);
    }

    private static void finishState() {
        ServiceThreads x = new ServiceThreads();
        Scene.program(x, 0, "lock 1; fail");
        Scene.program(x, 1, "lock 1");
        x.run(0x10L, 2);
        Check.refuses("a turn", STATE, () -> x.finish(0, 0));
        Check.refuses("a turn that was passed over", STATE, () -> x.finish(1, 0));
        x.kill(0);
        Check.refuses("dead behind a turn", STATE, () -> x.finish(0, 0));
        x.restart(0);
        x.finish(0, 0);
        Scene.steps(x, "begun anew", 0, Scene.DONE, Scene.FAULT);
        Check.same("the new finish", x.thread(0, 0), Scene.ENDED);
    }

    private static void callNumbers() {
        ServiceThreads x = new ServiceThreads();
        for (int call = 0; call <= 15; call++) {
            Check.same("a call", x.call(call % 4), call);
        }
        for (int call = 0; call <= 15; call++) {
            Check.same("rank of call " + call, x.callAt(call, 0), call % 4);
        }
    }

    private static void callRange() {
        ServiceThreads x = new ServiceThreads();
        for (int rank : Scene.outside(0, 3)) {
            Check.refuses("rank " + rank, RANGE, () -> x.call(rank));
        }
        Check.same("rank 0", x.call(0), 0);
        Check.same("rank 3", x.call(3), 1);
    }

    private static void callRoom() {
        ServiceThreads x = withSixteenCalls();
        Scene.program(x, 0, "take 15; close 15");
        Check.refuses("a 17th", ROOM, () -> x.call(0));
        x.run(0L, 2);
        Check.same("one is closed", x.count(4), 15);
        Check.refuses("closed ones are calls too", ROOM, () -> x.call(0));
        x.close();
        Check.refuses("behind close", ROOM, () -> x.call(0));
    }

    private static void stepAnswers() {
        ServiceThreads x = new ServiceThreads();
        Scene.program(x, 0, "lock 1; take 0; rest 1");
        Scene.program(x, 1, "take 0; lock 1; fail");
        x.call(0);
        Scene.steps(x, "done, rests, done", 0, 1, 1, 5, 1);
        Scene.steps(x, "told, passed over", 1, 2, 0, 0);
        Scene.steps(x, "ended", 0, 4);
        Scene.steps(x, "done, a fault, ended", 1, 1, 3, 4);
        ServiceThreads y = new ServiceThreads();
        Scene.program(y, 0, "fail");
        y.finish(0, 0);
        Scene.steps(y, "a fault that ends it is a fault", 0, 3);
        Check.same("it ended", y.thread(0, 0), Scene.ENDED);
    }

    private static void stepRefused() {
        ServiceThreads x = new ServiceThreads();
        x.step(0);
        x.kill(7);
        for (int thread : Scene.outside(0, 7)) {
            Check.refuses("thread " + thread, UNKNOWN, () -> x.step(thread));
        }
        Check.refuses("ended", STATE, () -> x.step(0));
        Check.refuses("dead", STATE, () -> x.step(7));
        x.close();
        Check.refuses("ended by close", STATE, () -> x.step(3));
        Check.same("turns", x.count(0), 1);
    }

    private static void runTurns() {
        for (int n : new int[] {0, 1, 15, 16}) {
            ServiceThreads x = new ServiceThreads();
            for (int i = 0; i < 16; i++) {
                x.act(7, 5, 0);
            }
            Check.same("n " + n, x.run(-1L, n), n);
            Check.same("turns of n " + n, x.count(0), n);
        }
    }

    private static void runBits() {
        for (int i = 0; i < 16; i++) {
            ServiceThreads x = new ServiceThreads();
            Scene.program(x, 7, "rest 0");
            Scene.program(x, 0, "rest 200");
            long others = 0x8888888888888888L;
            Check.same("thread 7 at " + i, x.run(others | (7L << (4 * i)), i + 1), 1);
            Check.same("its act", x.thread(7, 1), 1);
            Check.same("turns", x.count(0), i + 1);
        }
        ServiceThreads x = new ServiceThreads();
        for (int thread = 0; thread <= 7; thread++) {
            x.act(thread, 5, thread);
        }
        x.run(0xFEDCBA98L, 8);
        for (int thread = 0; thread <= 7; thread++) {
            Check.same("bit 3 is none of them: thread " + thread, x.thread(thread, 4), thread);
        }
        ServiceThreads ahead = new ServiceThreads();
        Scene.program(ahead, 0, "lock 1");
        Scene.program(ahead, 1, "lock 1");
        ahead.run(0x01L, 2);
        Check.same("the lowest bits come first", ahead.unit(1, 0), 1);
    }

    private static void runPassesOver() {
        ServiceThreads x = new ServiceThreads();
        Scene.program(x, 0, "lock 1");
        Scene.program(x, 1, "rest 0");
        x.lease(1);
        x.step(0);
        x.kill(0);
        Check.same("a dead one alone", x.run(0L, 16), 0);
        Check.same("no turn", x.count(0), 1);
        Check.same("nothing falls due", x.unit(1, 0), 0);
        Check.same("one that ends within the schedule", x.run(0x1111111111111111L, 16), 1);
        Check.same("its two turns", x.count(0), 3);
        x.close();
        Check.same("none runs", x.run(0x7654321076543210L, 16), 0);
        Check.same("no turns", x.count(0), 3);
    }

    private static void runDone() {
        ServiceThreads x = new ServiceThreads();
        Scene.program(x, 0, "lock 1; take 0; rest 2; fail");
        Scene.program(x, 1, "take 0; lock 1");
        x.call(0);
        Check.same("two done, one rests", x.run(0x000L, 3), 2);
        Check.same("told, passed over", x.run(0x11L, 2), 0);
        Check.same("rests, then the last one is done", x.run(0x00L, 2), 1);
        Check.same("a fault, an end", x.run(0x00L, 2), 0);
    }

    private static void runRange() {
        ServiceThreads x = new ServiceThreads();
        Scene.program(x, 0, "rest 0");
        for (int n : Scene.outside(0, 16)) {
            Check.refuses("n " + n, RANGE, () -> x.run(0L, n));
        }
        Check.same("no turn", x.count(0), 0);
        Check.same("its act", x.thread(0, 1), 0);
    }

    private static void kill() {
        ServiceThreads x = new ServiceThreads();
        Scene.program(x, 0, "rest 0");
        x.kill(0);
        Check.same("ahead of its first turn", x.thread(0, 0), Scene.DEAD);
        x.kill(7);
        Check.same("one without acts", x.thread(7, 0), Scene.DEAD);
        Check.same("no turns", x.count(0), 0);
        Check.same("no rows", x.count(1), 0);
        Scene.program(x, 1, "lock 0; lock 9");
        x.run(0x11L, 2);
        x.kill(1);
        Check.same("its locks stay", x.thread(1, 3), 2);
    }

    private static void killRefused() {
        ServiceThreads x = new ServiceThreads();
        x.step(0);
        x.kill(7);
        for (int thread : Scene.outside(0, 7)) {
            Check.refuses("thread " + thread, UNKNOWN, () -> x.kill(thread));
        }
        Check.refuses("ended", STATE, () -> x.kill(0));
        Check.refuses("dead", STATE, () -> x.kill(7));
        Check.same("it stays ended", x.thread(0, 0), Scene.ENDED);
    }

    private static void restart() {
        ServiceThreads x = new ServiceThreads();
        Scene.program(x, 0, "fail; lock 0; lock 9; rest 3");
        x.finish(0, 1);
        x.run(0L, 5);
        x.call(0);
        x.kill(0);
        x.restart(0);
        int[] due = {Scene.RUNNING, 0, 0, 0, 0, 0};
        for (int what = 0; what <= 5; what++) {
            Check.same("thread(0, " + what + ")", x.thread(0, what), due[what]);
        }
        Check.same("unit 0", x.unit(0, 0), Scene.NOBODY);
        Check.same("unit 9", x.unit(9, 0), Scene.NOBODY);
        Scene.steps(x, "all over again", 0, Scene.FAULT, Scene.DONE, Scene.DONE);
        Scene.steps(x, "not interrupted", 0, Scene.RESTS, Scene.RESTS, Scene.RESTS, Scene.DONE, Scene.END);
        Check.same("no rest began anew", x.thread(0, 5), 0);
        x.restart(0);
        Check.same("an ended one", x.thread(0, 0), Scene.RUNNING);
        Check.same("at act 0", x.thread(0, 1), 0);
        x.close();
        x.restart(7);
        Check.same("one that close ended", x.thread(7, 0), Scene.RUNNING);
    }

    private static void restartKeepsCalls() {
        ServiceThreads x = withSixteenCalls();
        Scene.program(x, 0, "lock 1; take 0; take 15; send 1 15");
        x.run(0L, 5);
        x.restart(0);
        Check.same("without a unit", x.callAt(0, 1), 0);
        Check.same("with a unit", x.callAt(15, 1), 0);
        Check.same("its unit is sent", x.unit(1, 1), 15);
    }

    private static void restartRefused() {
        ServiceThreads x = new ServiceThreads();
        Scene.program(x, 0, "rest 0");
        x.step(0);
        for (int thread : Scene.outside(0, 7)) {
            Check.refuses("thread " + thread, UNKNOWN, () -> x.restart(thread));
        }
        Check.refuses("it runs, behind its last act", STATE, () -> x.restart(0));
        Check.refuses("it runs, without acts", STATE, () -> x.restart(7));
        Check.same("its act", x.thread(0, 1), 1);
        x.kill(0);
        x.restart(0);
        Check.refuses("it was begun anew", STATE, () -> x.restart(0));
    }

    private static void lease() {
        for (int turns : new int[] {0, 1, 100}) {
            ServiceThreads x = new ServiceThreads();
            Scene.program(x, 0, "lock 3");
            Scene.program(x, 1, "rest 255");
            x.step(0);
            x.lease(50);
            x.lease(turns);
            x.kill(0);
            x.lease(50);
            for (int turn = 1; turn <= turns; turn++) {
                Check.same("lease " + turns + " ahead of turn " + turn, x.unit(3, 0), 0);
                x.step(1);
            }
            Check.same("lease " + turns + " is over", x.unit(3, 0), Scene.NOBODY);
        }
    }

    private static void leaseRange() {
        ServiceThreads x = new ServiceThreads();
        Scene.program(x, 0, "lock 3");
        Scene.program(x, 1, "rest 255");
        x.lease(1);
        for (int turns : Scene.outside(0, 100)) {
            Check.refuses("lease " + turns, RANGE, () -> x.lease(turns));
        }
        x.step(0);
        x.kill(0);
        Check.same("kept", x.unit(3, 0), 0);
        x.step(1);
        Check.same("the lease is 1 still", x.unit(3, 0), Scene.NOBODY);
    }

    private static void closeHowMany() {
        ServiceThreads x = new ServiceThreads();
        Check.same("all", x.close(), 8);
        Check.same("none", x.close(), 0);
        x.restart(7);
        Check.same("the last alone", x.close(), 1);
        x.restart(0);
        x.kill(0);
        Check.same("a dead one does not end", x.close(), 0);
        Check.same("it is dead", x.thread(0, 0), Scene.DEAD);
        Check.same("thread 7 ended", x.thread(7, 0), Scene.ENDED);
        Check.same("no turns", x.count(0), 0);
    }

    private static void closeLocksAndCalls() {
        ServiceThreads x = withSixteenCalls();
        Scene.program(x, 0, "lock 0; take 0; take 1; close 1");
        Scene.program(x, 7, "lock 9; take 15; take 14; send 9 14");
        Scene.program(x, 3, "take 7");
        x.run(0x3377770000L, 10);
        Check.same("less the one that had ended", x.close(), 7);
        Check.same("locks", x.count(5), 0);
        Check.same("the first call", x.callAt(0, 1), Scene.NOBODY);
        Check.same("the last call", x.callAt(15, 1), Scene.NOBODY);
        Check.same("a closed one", x.callAt(1, 1), 0);
        Check.same("one with a unit", x.callAt(14, 1), 7);
        Check.same("its unit is sent", x.unit(9, 1), 14);
        Check.same("one of a thread that had ended", x.callAt(7, 1), 3);
        Check.same("no rows", x.count(1), 0);
    }

    private static void closeDeadLocks() {
        ServiceThreads x = new ServiceThreads();
        Scene.program(x, 0, "lock 0");
        Scene.program(x, 7, "lock 9");
        x.run(0x70L, 2);
        x.lease(100);
        x.kill(0);
        x.kill(7);
        Check.same("six ended", x.close(), 6);
        Check.same("unit 0", x.unit(0, 0), Scene.NOBODY);
        Check.same("unit 9", x.unit(9, 0), Scene.NOBODY);
        Check.same("both stay dead", x.thread(0, 0) + x.thread(7, 0), 2 * Scene.DEAD);
    }

    private static void answers(String name, int of, IntBinaryOperator ask, int... due) {
        for (int what = 0; what < due.length; what++) {
            Check.same(name + "(" + of + ", " + what + ")", ask.applyAsInt(of, what), due[what]);
        }
    }

    private static void unknownBoth(String name, int highest, int highestWhat, IntBinaryOperator ask) {
        for (int of : Scene.outside(0, highest)) {
            Check.refuses(name + "(" + of + ", 0)", UNKNOWN, () -> ask.applyAsInt(of, 0));
        }
        for (int what : Scene.outside(0, highestWhat)) {
            Check.refuses(name + "(0, " + what + ")", UNKNOWN, () -> ask.applyAsInt(0, what));
        }
        for (int of = 0; of <= highest; of++) {
            for (int what = 0; what <= highestWhat; what++) {
                ask.applyAsInt(of, what);
            }
        }
    }

    private static void unit() {
        ServiceThreads x = withSixteenCalls();
        Scene.program(x, 7, "lock 0; lock 9; take 15; send 9 15; free 9");
        x.run(0x7777L, 4);
        answers("unit", 0, x::unit, 7, -1);
        answers("unit", 9, x::unit, 7, 15);
        answers("unit", 5, x::unit, -1, -1);
        x.step(7);
        answers("unit", 9, x::unit, -1, 15);
    }

    private static void unitUnknown() {
        unknownBoth("unit", 9, 1, new ServiceThreads()::unit);
    }

    private static void callAt() {
        ServiceThreads x = new ServiceThreads();
        Scene.program(x, 0, "lock 0; take 0; send 0 0; close 0");
        x.call(3);
        answers("callAt", 0, x::callAt, 3, -1, -1, 1);
        x.run(0L, 2);
        answers("callAt", 0, x::callAt, 3, 0, -1, 1);
        x.step(0);
        answers("callAt", 0, x::callAt, 3, 0, 0, 1);
        x.step(0);
        answers("callAt", 0, x::callAt, 3, 0, -1, 0);
        x.kill(0);
        x.restart(0);
        x.close();
        answers("callAt", 0, x::callAt, 3, 0, -1, 0);
    }

    private static void callAtUnknown() {
        ServiceThreads x = new ServiceThreads();
        Check.refuses("no calls", UNKNOWN, () -> x.callAt(0, 0));
        x.call(0);
        unknownBoth("callAt of one", 0, 3, x::callAt);
        unknownBoth("callAt of 16", 15, 3, withSixteenCalls()::callAt);
    }

    private static void threadAct() {
        ServiceThreads x = new ServiceThreads();
        Check.same("without acts", x.thread(7, 1), 0);
        for (int i = 0; i < 16; i++) {
            x.act(7, 5, 0);
        }
        for (int act = 0; act <= 16; act++) {
            Check.same("its act", x.thread(7, 1), act);
            x.step(7);
        }
        Check.same("ended behind all", x.thread(7, 1), 16);
    }

    private static void threadFault() {
        ServiceThreads x = new ServiceThreads();
        Scene.program(x, 0, "fail; rest 0; free 0");
        x.finish(0, 1);
        Check.same("none", x.thread(0, 2), 0);
        x.step(0);
        Check.same("the first", x.thread(0, 2), 5);
        x.step(0);
        Check.same("it stays behind an act that is done", x.thread(0, 2), 5);
        x.step(0);
        Check.same("the latest", x.thread(0, 2), 3);
        x.restart(0);
        Check.same("since it began", x.thread(0, 2), 0);
    }

    private static void threadUnits() {
        ServiceThreads x = new ServiceThreads();
        for (int unit = 0; unit <= 9; unit++) {
            x.act(0, 0, unit);
        }
        for (int units = 0; units <= 10; units++) {
            Check.same("units", x.thread(0, 3), units);
            x.step(0);
        }
        Check.same("behind its end", x.thread(0, 3), 0);
        Check.same("another thread's", x.thread(1, 3), 0);
    }

    private static void threadRest() {
        ServiceThreads x = new ServiceThreads();
        Scene.program(x, 0, "rest 0; rest 2");
        int[] due = {0, 0, 2, 1, 0, 0};
        for (int left : due) {
            Check.same("turns left", x.thread(0, 4), left);
            if (x.thread(0, 0) == Scene.RUNNING) {
                x.step(0);
            }
        }
    }

    private static void threadAnew() {
        ServiceThreads x = new ServiceThreads();
        Scene.program(x, 0, "rest 1; rest 1");
        for (int time = 1; time <= 4; time++) {
            x.step(0);
            x.call(0);
            Check.same("ahead of the turn", x.thread(0, 5), time - 1);
            x.step(0);
            Check.same("times", x.thread(0, 5), time);
            x.step(0);
            if (time == 2) {
                x.kill(0);
                x.restart(0);
                Check.same("in all, also those ahead of a restart", x.thread(0, 5), 2);
            }
        }
    }

    private static void threadUnknown() {
        unknownBoth("thread", 7, 5, new ServiceThreads()::thread);
    }

    private static void row() {
        ServiceThreads x = new ServiceThreads();
        Scene.program(x, 0, "fail");
        Scene.program(x, 6, "take 0");
        for (int i = 0; i < 15; i++) {
            x.act(7, 5, 0);
        }
        x.act(7, 2, 0);
        x.step(0);
        answers("row", 0, x::row, 0, 5, 0, 1);
        x.call(0);
        x.step(6);
        x.run(0x7777777777777777L, 16);
        answers("row", 1, x::row, 7, 0, 15, 18);
        answers("row", 0, x::row, 0, 5, 0, 1);
    }

    private static void rowUnknown() {
        ServiceThreads x = new ServiceThreads();
        Check.refuses("no rows", UNKNOWN, () -> x.row(0, 0));
        Scene.program(x, 0, "fail");
        x.step(0);
        unknownBoth("row of one", 0, 3, x::row);
        Scene.program(x, 1, "fail");
        x.step(1);
        unknownBoth("row of two", 1, 3, x::row);
    }

    private static void count() {
        ServiceThreads x = withSixteenCalls();
        for (int thread = 0; thread <= 7; thread++) {
            x.act(thread, 0, thread);
            x.act(thread, 2, thread);
            x.act(thread, 3, 17 * thread);
            x.act(thread, 6, 0);
            Check.same("running threads with acts", x.count(2), thread + 1);
        }
        x.run(0x7766554433221100L, 16);
        x.run(0x76543210L, 8);
        int[] due = {24, 0, 8, 8, 16, 8};
        for (int what = 0; what <= 5; what++) {
            Check.same("count(" + what + ")", x.count(what), due[what]);
        }
        x.run(0x76543210L, 8);
        int[] behindFaults = {32, 8, 8, 8, 16, 0};
        for (int what = 0; what <= 5; what++) {
            Check.same("behind faults count(" + what + ")", x.count(what), behindFaults[what]);
        }
        x.kill(0);
        x.step(7);
        Check.same("less a dead one and an ended one", x.count(2), 6);
    }

    private static void countUnknown() {
        ServiceThreads x = new ServiceThreads();
        for (int what : Scene.outside(0, 5)) {
            Check.refuses("count(" + what + ")", UNKNOWN, () -> x.count(what));
        }
    }
}
