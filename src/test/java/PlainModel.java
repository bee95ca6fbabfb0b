import java.util.ArrayList;
import java.util.List;
import java.util.Objects;

/**
 * The document once more, as plainly as the Java library allows and without a thought for memory:
 * the class has to answer every call as this model does.
 */
final class PlainModel implements Face {
    private record Act(int kind, int number) {}

    private record Row(int thread, int fault, int act, int turn) {}

    private static final class Taker {
        final List<Act> acts = new ArrayList<>();
        Integer finish;
        int state;
        int at;
        int fault;
        int left;
        int anew;
        int due;
        boolean rests;
        boolean interrupted;
        boolean fresh = true;

        int finishAt() {
            return finish == null ? acts.size() : finish;
        }

        boolean runs() {
            return state == 0;
        }
    }

    private static final class Unit {
        Taker holder;
        Call sentTo;
    }

    private static final class Call {
        final int rank;
        Taker holder;
        boolean open = true;

        Call(int rank) {
            this.rank = rank;
        }
    }

    /** What an act throws when it has a fault. */
    private static final class Fault extends Exception {
        private static final long serialVersionUID = 1L;
        final int number;

        Fault(int number) {
            this.number = number;
        }
    }

    private final List<Taker> takers = new ArrayList<>();
    private final List<Unit> units = new ArrayList<>();
    private final List<Call> calls = new ArrayList<>();
    private final List<Row> rows = new ArrayList<>();
    private int turns;
    private int lease = 10;

    PlainModel() {
        for (int i = 0; i < 8; i++) {
            takers.add(new Taker());
        }
        for (int i = 0; i < 10; i++) {
            units.add(new Unit());
        }
    }

    @Override
    public int act(int thread, int kind, int number) {
        unknownUnless(within(thread, 0, 7) && within(kind, 0, 6));
        rangeUnless(within(number, 0, 255));
        Taker taker = takers.get(thread);
        stateUnless(taker.fresh);
        roomUnless(taker.acts.size() < 16);
        taker.acts.add(new Act(kind, number));
        return taker.acts.size();
    }

    @Override
    public void finish(int thread, int act) {
        Taker taker = known(thread);
        rangeUnless(within(act, 0, taker.acts.size()));
        stateUnless(taker.fresh);
        taker.finish = act == taker.acts.size() ? null : Integer.valueOf(act);
    }

    @Override
    public int call(int rank) {
        rangeUnless(within(rank, 0, 3));
        roomUnless(calls.size() < 16);
        for (Taker taker : takers) {
            boolean above = calls.stream().filter(c -> c.open && c.holder == taker).allMatch(c -> rank > c.rank);
            taker.interrupted |= taker.runs() && taker.rests && above;
        }
        calls.add(new Call(rank));
        return calls.size() - 1;
    }

    @Override
    public int step(int thread) {
        Taker taker = known(thread);
        stateUnless(taker.runs());
        turns++;
        taker.fresh = false;
        takers.stream().filter(t -> t.state == 2 && t.due <= turns).forEach(this::freeAll);
        if (taker.at == taker.acts.size()) {
            taker.state = 1;
            freeAll(taker);
            return 4;
        }
        try {
            int answer = doAct(taker, taker.acts.get(taker.at));
            if (answer == 1 || answer == 2) {
                taker.at++;
            }
            return answer;
        } catch (Fault fault) {
            undo(taker, fault.number);
            return 3;
        }
    }

    private int doAct(Taker taker, Act act) throws Fault {
        int number = act.number;
        switch (act.kind) {
            case 0:
                return lock(taker, number);
            case 1:
                faultUnless(3, number < 10 && units.get(number).holder == taker);
                units.get(number).holder = null;
                return 1;
            case 2:
                return take(taker, number);
            case 3:
                return send(taker, number / 16, number % 16);
            case 4:
                faultUnless(4, hasOpen(taker, number));
                calls.get(number).open = false;
                units.stream().filter(u -> u.sentTo == calls.get(number)).forEach(u -> u.sentTo = null);
                return 1;
            case 5:
                return rest(taker, number);
            default:
                throw new Fault(5);
        }
    }

    private int lock(Taker taker, int number) throws Fault {
        faultUnless(3, number < 10);
        Unit unit = units.get(number);
        faultUnless(1, unit.holder != taker);
        faultUnless(2, units.stream().skip(number + 1).noneMatch(u -> u.holder == taker));
        if (unit.holder != null) {
            return 0;
        }
        unit.holder = taker;
        return 1;
    }

    private int take(Taker taker, int number) throws Fault {
        faultUnless(6, number < calls.size() && calls.get(number).open);
        Call call = calls.get(number);
        if (call.holder != null && call.holder != taker) {
            tell(taker, 0);
            return 2;
        }
        call.holder = taker;
        return 1;
    }

    private int send(Taker taker, int unit, int call) throws Fault {
        faultUnless(4, unit < 10 && hasOpen(taker, call));
        Unit sent = units.get(unit);
        faultUnless(4, sent.holder == taker && sent.sentTo == null && unitOf(calls.get(call)) < 0);
        sent.sentTo = calls.get(call);
        return 1;
    }

    private int rest(Taker taker, int number) {
        if (number == 0) {
            return 1;
        }
        if (!taker.rests || taker.interrupted) {
            taker.anew += taker.interrupted ? 1 : 0;
            taker.interrupted = false;
            taker.rests = true;
            taker.left = number;
            return 5;
        }
        taker.left--;
        taker.rests = taker.left > 0;
        return taker.rests ? 5 : 1;
    }

    private void undo(Taker taker, int fault) {
        tell(taker, fault);
        taker.fault = fault;
        freeAll(taker);
        dropWithoutUnit(taker);
        if (taker.at < taker.finishAt()) {
            taker.at = taker.finishAt();
        } else {
            taker.state = 1;
        }
    }

    @Override
    public int run(long schedule, int n) {
        rangeUnless(within(n, 0, 16));
        int done = 0;
        long rest = schedule;
        for (int i = 0; i < n; i++) {
            int thread = (int) (rest & 0xF) % 8;
            rest = rest >> 4;
            if (takers.get(thread).runs() && step(thread) == 1) {
                done++;
            }
        }
        return done;
    }

    @Override
    public void kill(int thread) {
        Taker taker = known(thread);
        stateUnless(taker.runs());
        taker.state = 2;
        taker.due = turns + lease;
        if (lease == 0) {
            freeAll(taker);
        }
        List<Taker> order = new ArrayList<>(takers.subList(thread + 1, 8));
        order.addAll(takers.subList(0, thread));
        Taker heir = order.stream().filter(t -> t.runs() && !t.acts.isEmpty()).findFirst().orElse(null);
        calls.stream().filter(c -> c.open && c.holder == taker).forEach(c -> c.holder = heir);
    }

    @Override
    public void restart(int thread) {
        Taker taker = known(thread);
        stateUnless(!taker.runs());
        freeAll(taker);
        taker.state = 0;
        taker.at = 0;
        taker.fault = 0;
        taker.left = 0;
        taker.rests = false;
        taker.interrupted = false;
        taker.fresh = true;
    }

    @Override
    public void lease(int turns) {
        rangeUnless(within(turns, 0, 100));
        lease = turns;
    }

    @Override
    public int close() {
        int ended = 0;
        for (Taker taker : takers) {
            freeAll(taker);
            if (taker.runs()) {
                dropWithoutUnit(taker);
                taker.state = 1;
                ended++;
            }
        }
        return ended;
    }

    @Override
    public int unit(int unit, int what) {
        unknownUnless(within(unit, 0, 9) && within(what, 0, 1));
        Unit one = units.get(unit);
        return what == 0 ? takers.indexOf(one.holder) : calls.indexOf(one.sentTo);
    }

    @Override
    public int callAt(int call, int what) {
        unknownUnless(within(call, 0, calls.size() - 1) && within(what, 0, 3));
        Call one = calls.get(call);
        return new int[] {one.rank, takers.indexOf(one.holder), unitOf(one), one.open ? 1 : 0}[what];
    }

    @Override
    public int thread(int thread, int what) {
        Taker taker = known(thread);
        unknownUnless(within(what, 0, 5));
        int locked = (int) units.stream().filter(u -> u.holder == taker).count();
        return new int[] {taker.state, taker.at, taker.fault, locked, taker.left, taker.anew}[what];
    }

    @Override
    public int row(int i, int what) {
        unknownUnless(within(i, 0, rows.size() - 1) && within(what, 0, 3));
        Row row = rows.get(i);
        return new int[] {row.thread, row.fault, row.act, row.turn}[what];
    }

    @Override
    public int count(int what) {
        unknownUnless(within(what, 0, 5));
        long running = takers.stream().filter(t -> t.runs() && !t.acts.isEmpty()).count();
        long sent = units.stream().map(u -> u.sentTo).filter(Objects::nonNull).count();
        long open = calls.stream().filter(c -> c.open).count();
        long locked = units.stream().map(u -> u.holder).filter(Objects::nonNull).count();
        return (int) new long[] {turns, rows.size(), running, sent, open, locked}[what];
    }

    private void tell(Taker taker, int fault) {
        if (rows.size() < 100) {
            rows.add(new Row(takers.indexOf(taker), fault, taker.at, turns));
        }
    }

    private void freeAll(Taker taker) {
        units.stream().filter(u -> u.holder == taker).forEach(u -> u.holder = null);
    }

    private void dropWithoutUnit(Taker taker) {
        calls.stream().filter(c -> c.open && c.holder == taker && unitOf(c) < 0).forEach(c -> c.holder = null);
    }

    private boolean hasOpen(Taker taker, int call) {
        return call < calls.size() && calls.get(call).open && calls.get(call).holder == taker;
    }

    private int unitOf(Call call) {
        return units.stream().map(u -> u.sentTo).toList().indexOf(call);
    }

    private Taker known(int thread) {
        unknownUnless(within(thread, 0, 7));
        return takers.get(thread);
    }

    private static boolean within(int number, int low, int high) {
        return low <= number && number <= high;
    }

    private static void faultUnless(int fault, boolean so) throws Fault {
        if (!so) {
            throw new Fault(fault);
        }
    }

    private static void unknownUnless(boolean so) {
        if (!so) {
            throw new IllegalArgumentException();
        }
    }

    private static void rangeUnless(boolean so) {
        if (!so) {
            throw new IndexOutOfBoundsException();
        }
    }

    private static void stateUnless(boolean so) {
        if (!so) {
            throw new IllegalStateException();
        }
    }

    private static void roomUnless(boolean so) {
        if (!so) {
            throw new UnsupportedOperationException();
        }
    }
}
