import java.util.ArrayList;
import java.util.List;
import java.util.Random;
import java.util.Set;
import java.util.function.Consumer;
import java.util.function.ToIntFunction;

/**
 * Many runs of calls with any arguments: a call answers and throws what the plain model does and
 * throws only what the face names for it, and what is refused changes nothing.
 *
 * A run has 250 calls and is looked at once, so that an object stays within its 512 calls.
 */
public final class ManyRunsTest {
    private static final int RUNS = 4000;
    private static final int CALLS_OF_A_RUN = 250;
    private static final int CALLS_THAT_SET_UP = 90;
    private static final int ROWS_TO_LOOK_AT = 25;

    private static final Class<?> UNKNOWN = IllegalArgumentException.class;
    private static final Class<?> RANGE = IndexOutOfBoundsException.class;
    private static final Class<?> STATE = IllegalStateException.class;
    private static final Class<?> ROOM = UnsupportedOperationException.class;

    private record Call(String text, Set<Class<?>> mayThrow, ToIntFunction<Face> made) {
        /** The answer, or the class of what it throws. */
        Object on(Face face) {
            int[] answer = new int[1];
            Class<?> thrown = Check.thrownBy(() -> answer[0] = made.applyAsInt(face));
            return thrown == null ? Integer.valueOf(answer[0]) : thrown;
        }
    }

    public static void main(String[] args) {
        for (int run = 0; run < RUNS; run++) {
            playOne(run);
        }
        Check.end();
    }

    private static void playOne(int run) {
        Random chance = new Random(run);
        Face all = Face.ofTheClass();
        Face model = new PlainModel();
        List<Call> taken = new ArrayList<>();
        List<Object> answers = new ArrayList<>();
        for (int i = 0; i < CALLS_OF_A_RUN; i++) {
            // Every other run sets programs up first; the rest come as they come.
            boolean setsUp = run % 2 == 0 && i < CALLS_THAT_SET_UP;
            Call call = setsUp ? callThatSetsUp(chance) : anyCall(chance);
            Object answer = call.on(all);
            Check.same("run " + run + ", call " + i + ": " + call.text, answer, call.on(model));
            if (answer instanceof Integer) {
                taken.add(call);
                answers.add(answer);
            } else if (!call.mayThrow.contains(answer)) {
                Check.same("run " + run + ": " + call.text, answer, call.mayThrow);
            }
        }
        looksLike("run " + run, all, model);
        withoutRefusedCalls(run, taken, answers);
    }

    private static void withoutRefusedCalls(int run, List<Call> taken, List<Object> answers) {
        Face x = Face.ofTheClass();
        for (int i = 0; i < taken.size(); i++) {
            Object answer = taken.get(i).on(x);
            Check.same("run " + run + " without refused calls: " + taken.get(i).text, answer, answers.get(i));
        }
    }

    private static void looksLike(String name, Face x, Face model) {
        for (int what = 0; what <= 5; what++) {
            Check.same(name + ": count(" + what + ")", x.count(what), model.count(what));
            for (int thread = 0; thread <= 7; thread++) {
                String asked = name + ": thread(" + thread + ", " + what + ")";
                Check.same(asked, x.thread(thread, what), model.thread(thread, what));
            }
        }
        for (int unit = 0; unit <= 9; unit++) {
            Check.same(name + ": who has unit " + unit, x.unit(unit, 0), model.unit(unit, 0));
            Check.same(name + ": where unit " + unit + " is sent", x.unit(unit, 1), model.unit(unit, 1));
        }
        for (int of = 0; of < ROWS_TO_LOOK_AT; of++) {
            int one = of;
            for (int what = 0; what <= 3; what++) {
                int asked = what;
                Call row = new Call("row(" + of + ", " + what + ")", Set.of(), face -> face.row(one, asked));
                Check.same(name + ": " + row.text, row.on(x), row.on(model));
                if (of < 16) {
                    Call call = new Call("callAt(" + of + ", " + what + ")", Set.of(), face -> face.callAt(one, asked));
                    Check.same(name + ": " + call.text, call.on(x), call.on(model));
                }
            }
        }
    }

    private static Call callThatSetsUp(Random chance) {
        switch (chance.nextInt(12)) {
            case 0:
                return anyFinish(chance);
            case 1:
                return anyRank(chance);
            default:
                return anyAct(chance);
        }
    }

    private static Call anyCall(Random chance) {
        int thread = number(chance, 8);
        switch (chance.nextInt(24)) {
            case 0, 1, 2, 3, 4:
                return anyAct(chance);
            case 5:
                return anyFinish(chance);
            case 6, 7:
                return anyRank(chance);
            case 8, 9, 10, 11, 12:
                return new Call("step(" + thread + ")", Set.of(UNKNOWN, STATE), x -> x.step(thread));
            case 13, 14, 15:
                long schedule = chance.nextLong();
                int n = number(chance, 17);
                return new Call("run(" + schedule + ", " + n + ")", Set.of(RANGE), x -> x.run(schedule, n));
            case 16:
                return voidCall("kill(" + thread + ")", Set.of(UNKNOWN, STATE), x -> x.kill(thread));
            case 17, 18, 19:
                return voidCall("restart(" + thread + ")", Set.of(UNKNOWN, STATE), x -> x.restart(thread));
            case 20:
                int turns = number(chance, chance.nextBoolean() ? 6 : 101);
                return voidCall("lease(" + turns + ")", Set.of(RANGE), x -> x.lease(turns));
            default:
                return anyQuestion(chance);
        }
    }

    private static Call anyAct(Random chance) {
        int thread = number(chance, 8);
        int kind = number(chance, chance.nextInt(4) == 0 ? 7 : 6);
        int with = anyNumberOf(chance, kind);
        return new Call("act(" + thread + ", " + kind + ", " + with + ")",
                Set.of(UNKNOWN, RANGE, STATE, ROOM), x -> x.act(thread, kind, with));
    }

    private static Call anyFinish(Random chance) {
        int thread = number(chance, 8);
        int act = number(chance, 8);
        return voidCall("finish(" + thread + ", " + act + ")",
                Set.of(UNKNOWN, RANGE, STATE), x -> x.finish(thread, act));
    }

    private static Call anyRank(Random chance) {
        int rank = number(chance, 4);
        return new Call("call(" + rank + ")", Set.of(RANGE, ROOM), x -> x.call(rank));
    }

    private static Call anyQuestion(Random chance) {
        int of = number(chance, 16);
        int what = number(chance, 6);
        switch (chance.nextInt(20)) {
            case 0:
                return new Call("close()", Set.of(), Face::close);
            case 1, 2, 3, 4:
                return new Call("unit(" + of + ", " + what + ")", Set.of(UNKNOWN), x -> x.unit(of, what));
            case 5, 6, 7, 8:
                return new Call("callAt(" + of + ", " + what + ")", Set.of(UNKNOWN), x -> x.callAt(of, what));
            case 9, 10, 11, 12:
                return new Call("thread(" + of + ", " + what + ")", Set.of(UNKNOWN), x -> x.thread(of, what));
            case 13, 14, 15, 16:
                return new Call("row(" + of + ", " + what + ")", Set.of(UNKNOWN), x -> x.row(of, what));
            default:
                return new Call("count(" + what + ")", Set.of(UNKNOWN), x -> x.count(what));
        }
    }

    private static Call voidCall(String text, Set<Class<?>> mayThrow, Consumer<Face> made) {
        return new Call(text, mayThrow, x -> {
            made.accept(x);
            return 0;
        });
    }

    /** Mostly 0 .. end - 1, at times just outside or far outside. */
    private static int number(Random chance, int end) {
        switch (chance.nextInt(40)) {
            case 0:
                return -1;
            case 1:
                return end;
            case 2:
                return chance.nextInt();
            case 3:
                return chance.nextBoolean() ? Integer.MIN_VALUE : Integer.MAX_VALUE;
            default:
                return chance.nextInt(end);
        }
    }

    /** Small units, calls and rests, so that threads meet at the same ones. */
    private static int anyNumberOf(Random chance, int kind) {
        if (chance.nextInt(10) == 0) {
            return number(chance, 256);
        }
        return kind == 3 ? 16 * chance.nextInt(4) + chance.nextInt(4) : chance.nextInt(4);
    }
}
