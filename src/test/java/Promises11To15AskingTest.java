import java.util.function.IntBinaryOperator;

/** Promises 11 to 15: unit, callAt, thread, row and count. */
public final class Promises11To15AskingTest {
    private static final int[] FAR = {-1, Integer.MIN_VALUE, Integer.MAX_VALUE};

    public static void main(String[] args) {
        unit();
        callAt();
        thread();
        row();
        keepsAHundredRows();
        count();
        Check.end();
    }

    /** Thread 0: unit 3 locked, unit 5 sent to call 1, call 0 closed; thread 1 rests behind a fault. */
    private static ServiceThreads scene() {
        ServiceThreads x = new ServiceThreads();
        Scene.program(x, 0, "lock 3; lock 5; take 0; take 1; send 5 1; close 0; rest 9");
        Scene.program(x, 1, "take 1; fail; rest 4");
        x.finish(1, 2);
        x.call(2);
        x.call(3);
        x.call(1);
        x.run(0x1111000000L, 10);
        return x;
    }

    private static void refusesBoth(String name, int known, int above, int whats, IntBinaryOperator ask) {
        for (int i : FAR) {
            Check.refuses(name + " " + i, IllegalArgumentException.class, () -> ask.applyAsInt(i, 0));
            Check.refuses(name + " what " + i, IllegalArgumentException.class, () -> ask.applyAsInt(known, i));
        }
        Check.refuses(name + " above", IllegalArgumentException.class, () -> ask.applyAsInt(above, 0));
        Check.refuses(name + " what", IllegalArgumentException.class, () -> ask.applyAsInt(known, whats));
    }

    private static void answers(String name, int of, IntBinaryOperator ask, int... due) {
        for (int what = 0; what < due.length; what++) {
            Check.same(name + "(" + of + ", " + what + ")", ask.applyAsInt(of, what), due[what]);
        }
    }

    private static void unit() {
        ServiceThreads x = scene();
        answers("unit", 3, x::unit, 0, -1);
        answers("unit", 5, x::unit, 0, 1);
        answers("unit", 0, x::unit, -1, -1);
        answers("unit", 9, x::unit, -1, -1);
        refusesBoth("unit", 3, 10, 2, x::unit);
    }

    private static void callAt() {
        ServiceThreads x = scene();
        answers("callAt", 0, x::callAt, 2, 0, -1, 0);
        answers("callAt", 1, x::callAt, 3, 0, 5, 1);
        answers("callAt", 2, x::callAt, 1, -1, -1, 1);
        refusesBoth("callAt", 1, 3, 4, x::callAt);
        Check.same("one more call", x.call(0), 3);
        answers("callAt", 3, x::callAt, 0, -1, -1, 1);
    }

    private static void thread() {
        ServiceThreads x = scene();
        answers("thread", 0, x::thread, 0, 6, 0, 2, 0, 0);
        answers("thread", 1, x::thread, 0, 2, 5, 0, 3, 0);
        answers("thread", 7, x::thread, 0, 0, 0, 0, 0, 0);
        x.call(0);
        x.step(1);
        answers("thread", 1, x::thread, 0, 2, 5, 0, 4, 1);
        x.kill(1);
        answers("thread", 1, x::thread, 2, 2, 5, 0, 4, 1);
        x.restart(1);
        answers("thread", 1, x::thread, 0, 0, 0, 0, 0, 1);
        refusesBoth("thread", 7, 8, 6, x::thread);
    }

    private static void row() {
        ServiceThreads x = scene();
        answers("row", 0, x::row, 1, 0, 0, 7);
        answers("row", 1, x::row, 1, 5, 1, 8);
        refusesBoth("row", 1, 2, 4, x::row);
        Scene.program(x, 2, "free 3");
        x.step(2);
        answers("row", 2, x::row, 2, 3, 0, 11);
    }

    private static void keepsAHundredRows() {
        ServiceThreads x = new ServiceThreads();
        Scene.program(x, 0, "take 0; rest 9");
        x.call(0);
        x.step(0);
        for (int i = 0; i < 16; i++) {
            x.act(1, 2, 0);
        }
        for (int i = 0; i < 7; i++) {
            x.run(0x1111111111111111L, 16);
            x.step(1);
            x.restart(1);
        }
        Check.same("112 were told", x.count(0), 120);
        Check.same("rows that are kept", x.count(1), 100);
        answers("row", 0, x::row, 1, 0, 0, 2);
        answers("row", 99, x::row, 1, 0, 3, 2 + 6 * 17 + 3);
        Check.refuses("row 100", IllegalArgumentException.class, () -> x.row(100, 0));
        Scene.program(x, 2, "fail");
        Scene.steps(x, "faults go on", 2, Scene.FAULT);
        Check.same("the thread's fault", x.thread(2, 2), 5);
        Check.same("rows then", x.count(1), 100);
        Check.same("the last row stays", x.row(99, 0), 1);
    }

    private static void count() {
        ServiceThreads x = scene();
        IntBinaryOperator counts = (ignored, what) -> x.count(what);
        answers("count", 0, counts, 10, 2, 2, 1, 2, 2);
        Scene.program(x, 4, "rest 0");
        answers("count", 0, counts, 10, 2, 3, 1, 2, 2);
        x.kill(0);
        answers("count", 0, counts, 10, 2, 2, 1, 2, 2);
        x.close();
        answers("count", 0, counts, 10, 2, 0, 1, 2, 0);
        for (int what : new int[] {-1, 6, Integer.MIN_VALUE, Integer.MAX_VALUE}) {
            Check.refuses("count " + what, IllegalArgumentException.class, () -> x.count(what));
        }
    }
}
