import java.util.ArrayList;
import java.util.List;
import java.util.Random;
import java.util.Set;
import java.util.function.Consumer;
import java.util.function.ToIntFunction;

/**
 * Many runs of calls with any arguments: a call throws only what the face names for it, what is
 * refused changes nothing, and what is asked fits together.
 *
 * A run has 250 calls and is looked at once, so that an object stays within its 512 calls.
 */
public final class ManyRunsTest {
    private static final int RUNS = 3000;
    private static final int CALLS_OF_A_RUN = 250;

    private static final Class<?> UNKNOWN = IllegalArgumentException.class;
    private static final Class<?> RANGE = IndexOutOfBoundsException.class;
    private static final Class<?> STATE = IllegalStateException.class;
    private static final Class<?> ROOM = UnsupportedOperationException.class;

    private record Call(String text, Set<Class<?>> mayThrow, ToIntFunction<ServiceThreads> made) {}

    public static void main(String[] args) {
        for (int run = 0; run < RUNS; run++) {
            playOne(run);
        }
        Check.end();
    }

    private static void playOne(int run) {
        Random chance = new Random(run);
        ServiceThreads all = new ServiceThreads();
        List<Call> taken = new ArrayList<>();
        List<Integer> answers = new ArrayList<>();
        for (int i = 0; i < CALLS_OF_A_RUN; i++) {
            Call call = anyCall(chance);
            int[] answer = new int[1];
            Class<?> thrown = Check.thrownBy(() -> answer[0] = call.made.applyAsInt(all));
            if (thrown == null) {
                taken.add(call);
                answers.add(answer[0]);
            } else if (!call.mayThrow.contains(thrown)) {
                Check.same("run " + run + ": " + call.text, thrown, call.mayThrow);
            }
        }
        ServiceThreads withoutRefused = new ServiceThreads();
        for (int i = 0; i < taken.size(); i++) {
            int answer = taken.get(i).made.applyAsInt(withoutRefused);
            Check.same("run " + run + " without refused calls: " + taken.get(i).text, answer, answers.get(i));
        }
        fitsTogether("run " + run, all);
    }

    private static Call anyCall(Random chance) {
        int thread = number(chance, 8);
        switch (chance.nextInt(16)) {
            case 0, 1, 2, 3, 4:
                int kind = number(chance, 7);
                int with = anyNumberOf(chance, kind);
                return new Call("act(" + thread + ", " + kind + ", " + with + ")",
                        Set.of(UNKNOWN, RANGE, STATE, ROOM), x -> x.act(thread, kind, with));
            case 5:
                int act = number(chance, 8);
                return voidCall("finish(" + thread + ", " + act + ")",
                        Set.of(UNKNOWN, RANGE, STATE), x -> x.finish(thread, act));
            case 6:
                int rank = number(chance, 4);
                return new Call("call(" + rank + ")", Set.of(RANGE, ROOM), x -> x.call(rank));
            case 7, 8:
                return new Call("step(" + thread + ")", Set.of(UNKNOWN, STATE), x -> x.step(thread));
            case 9, 10:
                long schedule = chance.nextLong();
                int n = number(chance, 17);
                return new Call("run(" + schedule + ", " + n + ")", Set.of(RANGE), x -> x.run(schedule, n));
            case 11:
                return voidCall("kill(" + thread + ")", Set.of(UNKNOWN, STATE), x -> x.kill(thread));
            case 12, 13:
                return voidCall("restart(" + thread + ")", Set.of(UNKNOWN, STATE), x -> x.restart(thread));
            case 14:
                int turns = number(chance, chance.nextBoolean() ? 6 : 101);
                return voidCall("lease(" + turns + ")", Set.of(RANGE), x -> x.lease(turns));
            default:
                return anyQuestion(chance);
        }
    }

    private static Call anyQuestion(Random chance) {
        int of = number(chance, 16);
        int what = number(chance, 6);
        switch (chance.nextInt(20)) {
            case 0:
                return new Call("close()", Set.of(), ServiceThreads::close);
            case 1, 2, 3, 4:
                return new Call("unit(" + of + ", " + what + ")", Set.of(UNKNOWN), x -> x.unit(of, what));
            case 5, 6, 7, 8:
                return new Call("callAt(" + of + ", " + what + ")", Set.of(UNKNOWN), x -> x.callAt(of, what));
            case 9, 10, 11, 12:
                return new Call("thread(" + of + ", " + what + ")", Set.of(UNKNOWN), x -> x.thread(of, what));
            case 13, 14, 15, 16:
                return new Call("row(" + of + ", " + what + ")", Set.of(UNKNOWN), x -> x.row(of, what));
            default:
                return new Call("count(" + what + ")", Set.of(UNKNOWN), x -> x.count(what));
        }
    }

    private static Call voidCall(String text, Set<Class<?>> mayThrow, Consumer<ServiceThreads> made) {
        return new Call(text, mayThrow, x -> {
            made.accept(x);
            return 0;
        });
    }

    /** Mostly 0 .. end - 1, at times just outside or far outside. */
    private static int number(Random chance, int end) {
        switch (chance.nextInt(40)) {
            case 0:
                return -1;
            case 1:
                return end;
            case 2:
                return chance.nextInt();
            case 3:
                return chance.nextBoolean() ? Integer.MIN_VALUE : Integer.MAX_VALUE;
            default:
                return chance.nextInt(end);
        }
    }

    /** Small units, calls and rests, so that threads meet at the same ones. */
    private static int anyNumberOf(Random chance, int kind) {
        if (chance.nextInt(10) == 0) {
            return number(chance, 256);
        }
        return kind == 3 ? 16 * chance.nextInt(4) + chance.nextInt(4) : chance.nextInt(4);
    }

    private static void fitsTogether(String name, ServiceThreads x) {
        int locked = 0;
        int sent = 0;
        for (int unit = 0; unit < 10; unit++) {
            int holder = x.unit(unit, 0);
            if (holder >= 0) {
                locked++;
                Check.same(name + ": an ended one has a lock", x.thread(holder, 0) == Scene.ENDED, false);
            }
            int call = x.unit(unit, 1);
            if (call >= 0) {
                sent++;
                Check.same(name + ": the unit of the call to which it is sent", x.callAt(call, 2), unit);
                Check.same(name + ": a call with a unit is open", x.callAt(call, 3), 1);
            }
        }
        Check.same(name + ": units locked", x.count(5), locked);
        Check.same(name + ": units sent", x.count(3), sent);
        int lockedByThreads = 0;
        for (int thread = 0; thread < 8; thread++) {
            lockedByThreads += x.thread(thread, 3);
        }
        Check.same(name + ": units locked, by threads", lockedByThreads, locked);
        int rows = x.count(1);
        int latest = 0;
        for (int row = 0; row < rows; row++) {
            int turn = x.row(row, 3);
            Check.same(name + ": rows come by their turns", turn > latest && turn <= x.count(0), true);
            latest = turn;
        }
    }
}
