import java.util.Arrays;

/** Call takers, units and calls as threads that do one act when the schedule's turn comes. */
public final class ServiceThreads {
    private static final int THREADS = 8;
    private static final int UNITS = 10;
    private static final int MOST_ACTS = 16;
    private static final int MOST_CALLS = 16;
    private static final int MOST_ROWS = 100;
    private static final int MOST_TURNS_OF_A_RUN = 16;
    private static final int HIGHEST_NUMBER = 255;
    private static final int HIGHEST_RANK = 3;
    private static final int LONGEST_LEASE = 100;
    private static final int FIRST_LEASE = 10;
    private static final int NONE = -1;

    private static final int RUNNING = 0;
    private static final int ENDED = 1;
    private static final int DEAD = 2;

    private static final int ACT_LOCK = 0;
    private static final int ACT_FREE = 1;
    private static final int ACT_TAKE = 2;
    private static final int ACT_SEND = 3;
    private static final int ACT_CLOSE = 4;
    private static final int ACT_REST = 5;
    private static final int ACT_FAIL = 6;

    private static final int PASSED_OVER = 0;
    private static final int DONE = 1;
    private static final int TOLD = 2;
    private static final int FAULTED = 3;
    private static final int HAS_ENDED = 4;
    private static final int RESTS = 5;

    private static final int CALL_OF_ANOTHER = 0;

    // An act answers a fault below zero, so that it can't be taken for one of a turn's answers.
    private static final int FAULT_HAS_IT = -1;
    private static final int FAULT_BELOW = -2;
    private static final int FAULT_NOT_LOCKED = -3;
    private static final int FAULT_NOT_SO = -4;
    private static final int FAULT_FAIL = -5;
    private static final int FAULT_NO_CALL = -6;

    private final Programs programs;
    private final Units units;
    private final Calls calls;
    private final Rows rows;

    private final int[] state;
    private final int[] at;
    private final int[] latestFault;
    private final int[] restLeft;
    private final int[] restsAnew;
    private final int[] locksDue;
    private final boolean[] interrupted;
    private final boolean[] hadTurn;
    private int turnCount;
    private int leaseTurns;

    /** Promise 1: no programs, no calls. */
    public ServiceThreads() {
        programs = new Programs();
        units = new Units();
        calls = new Calls();
        rows = new Rows();
        state = new int[THREADS];
        at = new int[THREADS];
        latestFault = new int[THREADS];
        restLeft = new int[THREADS];
        restsAnew = new int[THREADS];
        locksDue = new int[THREADS];
        interrupted = new boolean[THREADS];
        hadTurn = new boolean[THREADS];
        turnCount = 0;
        leaseTurns = FIRST_LEASE;
    }

    /** Promise 2: one more act of a program; answers how many there are then. */
    public int act(int thread, int kind, int number)
            throws IllegalArgumentException, IndexOutOfBoundsException, IllegalStateException,
                    UnsupportedOperationException {
        requireThread(thread);
        if (kind < ACT_LOCK || kind > ACT_FAIL) {
            throw new IllegalArgumentException("no such kind of act");
        }
        if (number < 0 || number > HIGHEST_NUMBER) {
            throw new IndexOutOfBoundsException("an act's number is 0 .. 255");
        }
        requireNoTurnYet(thread);
        if (programs.isFull(thread)) {
            throw new UnsupportedOperationException("a program has at most 16 acts");
        }
        return programs.add(thread, kind, number);
    }

    /** Promise 3: the acts from this one on are the thread's finishing part. */
    public void finish(int thread, int act)
            throws IllegalArgumentException, IndexOutOfBoundsException, IllegalStateException {
        requireThread(thread);
        if (act < 0 || act > programs.actsOf(thread)) {
            throw new IndexOutOfBoundsException("a finish is an act or behind all");
        }
        requireNoTurnYet(thread);
        programs.setFinish(thread, act);
    }

    /** Promise 4: a new call; answers its number. */
    public int call(int rank) throws IndexOutOfBoundsException, UnsupportedOperationException {
        if (rank < 0 || rank > HIGHEST_RANK) {
            throw new IndexOutOfBoundsException("a rank is 0 .. 3");
        }
        if (calls.isFull()) {
            throw new UnsupportedOperationException("there are at most 16 calls");
        }
        interruptResting(rank);
        return calls.add(rank);
    }

    /** Promise 5: a turn of a running thread; answers what came of it. */
    public int step(int thread) throws IllegalArgumentException, IllegalStateException {
        requireThread(thread);
        requireRunning(thread);
        return takeTurn(thread);
    }

    /** Promise 6: the turns of a schedule; answers how many acts were done. */
    public int run(long schedule, int n) throws IndexOutOfBoundsException {
        if (n < 0 || n > MOST_TURNS_OF_A_RUN) {
            throw new IndexOutOfBoundsException("a schedule has 0 .. 16 turns");
        }
        int done = 0;
        for (int i = 0; i < n; i++) {
            int thread = (int) ((schedule >>> (4 * i)) & 7L);
            if (state[thread] == RUNNING && takeTurn(thread) == DONE) {
                done++;
            }
        }
        return done;
    }

    /** Promise 7: a running thread dies. */
    public void kill(int thread) throws IllegalArgumentException, IllegalStateException {
        requireThread(thread);
        requireRunning(thread);
        state[thread] = DEAD;
        // The lease in force now is the one that counts, so its end is fixed here.
        locksDue[thread] = turnCount + leaseTurns;
        if (leaseTurns == 0) {
            units.freeAllOf(thread);
        }
        calls.passOn(thread, nextRunningBehind(thread));
    }

    /** Promise 8: a dead or ended thread begins anew. */
    public void restart(int thread) throws IllegalArgumentException, IllegalStateException {
        requireThread(thread);
        if (state[thread] == RUNNING) {
            throw new IllegalStateException("the thread runs");
        }
        units.freeAllOf(thread);
        state[thread] = RUNNING;
        at[thread] = 0;
        latestFault[thread] = 0;
        restLeft[thread] = 0;
        interrupted[thread] = false;
        hadTurn[thread] = false;
    }

    /** Promise 9: the lease of those that die from now on. */
    public void lease(int turns) throws IndexOutOfBoundsException {
        if (turns < 0 || turns > LONGEST_LEASE) {
            throw new IndexOutOfBoundsException("a lease is 0 .. 100");
        }
        leaseTurns = turns;
    }

    /** Promise 10: ends all that run and frees all locks; answers how many ended. */
    public int close() {
        int ended = 0;
        for (int thread = 0; thread < THREADS; thread++) {
            if (state[thread] == RUNNING) {
                end(thread);
                calls.dropUnsentOf(thread);
                ended++;
            } else if (state[thread] == DEAD) {
                units.freeAllOf(thread);
            }
        }
        return ended;
    }

    /** Promise 11: of a unit 0 who has it locked, 1 the call to which it is sent. */
    public int unit(int unit, int what) throws IllegalArgumentException {
        if (unit < 0 || unit >= UNITS) {
            throw new IllegalArgumentException("no such unit");
        }
        switch (what) {
            case 0:
                return units.lockedBy[unit];
            case 1:
                return units.sentTo[unit];
            default:
                throw new IllegalArgumentException("no such what of a unit");
        }
    }

    /** Promise 12: of a call 0 its rank, 1 who has or had it, 2 its unit, 3 whether it is open. */
    public int callAt(int call, int what) throws IllegalArgumentException {
        if (!calls.isKnown(call)) {
            throw new IllegalArgumentException("no such call");
        }
        switch (what) {
            case 0:
                return calls.rankOf[call];
            case 1:
                return calls.hadBy[call];
            case 2:
                return calls.unitOf[call];
            case 3:
                return calls.isOpen[call] ? 1 : 0;
            default:
                throw new IllegalArgumentException("no such what of a call");
        }
    }

    /** Promise 13: of a thread 0 state, 1 act, 2 fault, 3 units locked, 4 rest left, 5 rests anew. */
    public int thread(int thread, int what) throws IllegalArgumentException {
        requireThread(thread);
        switch (what) {
            case 0:
                return state[thread];
            case 1:
                return at[thread];
            case 2:
                return latestFault[thread];
            case 3:
                return units.lockedByCount(thread);
            case 4:
                return restLeft[thread];
            case 5:
                return restsAnew[thread];
            default:
                throw new IllegalArgumentException("no such what of a thread");
        }
    }

    /** Promise 14: of a row 0 the thread, 1 the fault, 2 the act, 3 the turn. */
    public int row(int i, int what) throws IllegalArgumentException {
        if (!rows.isKnown(i)) {
            throw new IllegalArgumentException("no such row");
        }
        switch (what) {
            case 0:
                return rows.threadOf[i];
            case 1:
                return rows.faultOf[i];
            case 2:
                return rows.actOf[i];
            case 3:
                return rows.turnOf[i];
            default:
                throw new IllegalArgumentException("no such what of a row");
        }
    }

    /** Promise 15: how many 0 turns, 1 rows, 2 running with acts, 3 sent, 4 open calls, 5 locked. */
    public int count(int what) throws IllegalArgumentException {
        switch (what) {
            case 0:
                return turnCount;
            case 1:
                return rows.kept;
            case 2:
                return runningWithActs();
            case 3:
                return units.sentCount();
            case 4:
                return calls.openCount();
            case 5:
                return units.lockedCount();
            default:
                throw new IllegalArgumentException("no such what to count");
        }
    }

    private static void requireThread(int thread) {
        if (thread < 0 || thread >= THREADS) {
            throw new IllegalArgumentException("no such thread");
        }
    }

    private void requireRunning(int thread) {
        if (state[thread] != RUNNING) {
            throw new IllegalStateException("the thread does not run");
        }
    }

    private void requireNoTurnYet(int thread) {
        if (hadTurn[thread]) {
            throw new IllegalStateException("the thread had a turn since it began");
        }
    }

    private int takeTurn(int thread) {
        turnCount++;
        hadTurn[thread] = true;
        freeLocksThatAreDue();
        int act = at[thread];
        if (act >= programs.actsOf(thread)) {
            end(thread);
            return HAS_ENDED;
        }
        int outcome = perform(thread, programs.kindOf(thread, act), programs.numberOf(thread, act));
        if (outcome < 0) {
            fault(thread, -outcome);
            return FAULTED;
        }
        if (outcome == DONE || outcome == TOLD) {
            at[thread]++;
        }
        return outcome;
    }

    private int perform(int thread, int kind, int number) {
        switch (kind) {
            case ACT_LOCK:
                return lockUnit(thread, number);
            case ACT_FREE:
                return freeUnit(thread, number);
            case ACT_TAKE:
                return takeCall(thread, number);
            case ACT_SEND:
                return sendUnit(thread, number / 16, number % 16);
            case ACT_CLOSE:
                return closeCall(thread, number);
            case ACT_REST:
                return rest(thread, number);
            default:
                return FAULT_FAIL;
        }
    }

    private int lockUnit(int thread, int unit) {
        if (unit < 0 || unit >= UNITS) {
            return FAULT_NOT_LOCKED;
        }
        int holder = units.lockedBy[unit];
        if (holder == thread) {
            return FAULT_HAS_IT;
        }
        if (units.hasOneAbove(thread, unit)) {
            return FAULT_BELOW;
        }
        if (holder != NONE) {
            return PASSED_OVER;
        }
        units.lockedBy[unit] = thread;
        return DONE;
    }

    private int freeUnit(int thread, int unit) {
        if (unit < 0 || unit >= UNITS || units.lockedBy[unit] != thread) {
            return FAULT_NOT_LOCKED;
        }
        units.lockedBy[unit] = NONE;
        return DONE;
    }

    private int takeCall(int thread, int call) {
        if (!calls.isKnown(call) || !calls.isOpen[call]) {
            return FAULT_NO_CALL;
        }
        int holder = calls.hadBy[call];
        if (holder != NONE && holder != thread) {
            rows.tell(thread, CALL_OF_ANOTHER, at[thread], turnCount);
            return TOLD;
        }
        calls.hadBy[call] = thread;
        return DONE;
    }

    private int sendUnit(int thread, int unit, int call) {
        if (unit < 0 || unit >= UNITS || !calls.isOpenOf(call, thread)) {
            return FAULT_NOT_SO;
        }
        if (units.lockedBy[unit] != thread || units.sentTo[unit] != NONE) {
            return FAULT_NOT_SO;
        }
        if (calls.unitOf[call] != NONE) {
            return FAULT_NOT_SO;
        }
        units.sentTo[unit] = call;
        calls.unitOf[call] = unit;
        return DONE;
    }

    private int closeCall(int thread, int call) {
        if (!calls.isOpenOf(call, thread)) {
            return FAULT_NOT_SO;
        }
        int unit = calls.unitOf[call];
        if (unit >= 0 && unit < UNITS) {
            units.sentTo[unit] = NONE;
        }
        calls.unitOf[call] = NONE;
        calls.isOpen[call] = false;
        return DONE;
    }

    private int rest(int thread, int restTurns) {
        if (restTurns == 0) {
            return DONE;
        }
        if (interrupted[thread]) {
            interrupted[thread] = false;
            restsAnew[thread]++;
            restLeft[thread] = restTurns;
            return RESTS;
        }
        if (restLeft[thread] == 0) {
            restLeft[thread] = restTurns;
            return RESTS;
        }
        restLeft[thread]--;
        return restLeft[thread] == 0 ? DONE : RESTS;
    }

    private void fault(int thread, int fault) {
        rows.tell(thread, fault, at[thread], turnCount);
        latestFault[thread] = fault;
        units.freeAllOf(thread);
        calls.dropUnsentOf(thread);
        int finish = programs.finishOf(thread);
        if (at[thread] < finish) {
            at[thread] = finish;
        } else {
            end(thread);
        }
    }

    private void end(int thread) {
        state[thread] = ENDED;
        units.freeAllOf(thread);
    }

    private void freeLocksThatAreDue() {
        for (int thread = 0; thread < THREADS; thread++) {
            if (state[thread] == DEAD && turnCount >= locksDue[thread]) {
                units.freeAllOf(thread);
            }
        }
    }

    private void interruptResting(int rank) {
        for (int thread = 0; thread < THREADS; thread++) {
            // A dead or ended thread may have turns of a rest left, but it rests no more.
            boolean isResting = state[thread] == RUNNING && restLeft[thread] > 0;
            if (isResting && rank > calls.highestOpenRankOf(thread)) {
                interrupted[thread] = true;
            }
        }
    }

    private boolean runsWithActs(int thread) {
        return state[thread] == RUNNING && programs.actsOf(thread) > 0;
    }

    private int runningWithActs() {
        int running = 0;
        for (int thread = 0; thread < THREADS; thread++) {
            if (runsWithActs(thread)) {
                running++;
            }
        }
        return running;
    }

    private int nextRunningBehind(int thread) {
        for (int ahead = 1; ahead < THREADS; ahead++) {
            int next = (thread + ahead) % THREADS;
            if (runsWithActs(next)) {
                return next;
            }
        }
        return NONE;
    }

    /** The acts of all threads and where each one's finishing part begins. */
    private static final class Programs {
        private final int[] kinds = new int[THREADS * MOST_ACTS];
        private final int[] numbers = new int[THREADS * MOST_ACTS];
        private final int[] acts = new int[THREADS];
        // NONE is behind all, also when more acts come.
        private final int[] finishes = new int[THREADS];

        Programs() {
            Arrays.fill(finishes, NONE);
        }

        int actsOf(int thread) {
            return acts[thread];
        }

        boolean isFull(int thread) {
            return acts[thread] >= MOST_ACTS;
        }

        int add(int thread, int kind, int number) {
            int place = thread * MOST_ACTS + acts[thread];
            kinds[place] = kind;
            numbers[place] = number;
            acts[thread]++;
            return acts[thread];
        }

        void setFinish(int thread, int act) {
            finishes[thread] = act == acts[thread] ? NONE : act;
        }

        int finishOf(int thread) {
            return finishes[thread] == NONE ? acts[thread] : finishes[thread];
        }

        int kindOf(int thread, int act) {
            return kinds[thread * MOST_ACTS + act];
        }

        int numberOf(int thread, int act) {
            return numbers[thread * MOST_ACTS + act];
        }
    }

    /** Who has each unit locked, and the call to which it is sent. */
    private static final class Units {
        final int[] lockedBy = new int[UNITS];
        final int[] sentTo = new int[UNITS];

        Units() {
            Arrays.fill(lockedBy, NONE);
            Arrays.fill(sentTo, NONE);
        }

        void freeAllOf(int thread) {
            for (int unit = 0; unit < UNITS; unit++) {
                if (lockedBy[unit] == thread) {
                    lockedBy[unit] = NONE;
                }
            }
        }

        boolean hasOneAbove(int thread, int unit) {
            for (int above = unit + 1; above < UNITS; above++) {
                if (lockedBy[above] == thread) {
                    return true;
                }
            }
            return false;
        }

        int lockedByCount(int thread) {
            int locked = 0;
            for (int unit = 0; unit < UNITS; unit++) {
                if (lockedBy[unit] == thread) {
                    locked++;
                }
            }
            return locked;
        }

        int lockedCount() {
            return UNITS - lockedByCount(NONE);
        }

        int sentCount() {
            int sent = 0;
            for (int unit = 0; unit < UNITS; unit++) {
                if (sentTo[unit] != NONE) {
                    sent++;
                }
            }
            return sent;
        }
    }

    /** All calls, the closed ones too. */
    private static final class Calls {
        final int[] rankOf = new int[MOST_CALLS];
        final int[] hadBy = new int[MOST_CALLS];
        final int[] unitOf = new int[MOST_CALLS];
        final boolean[] isOpen = new boolean[MOST_CALLS];
        private int made;

        Calls() {
            Arrays.fill(hadBy, NONE);
            Arrays.fill(unitOf, NONE);
            made = 0;
        }

        boolean isFull() {
            return made >= MOST_CALLS;
        }

        boolean isKnown(int call) {
            return call >= 0 && call < made;
        }

        int add(int rank) {
            int call = made;
            rankOf[call] = rank;
            isOpen[call] = true;
            made++;
            return call;
        }

        boolean isOpenOf(int call, int thread) {
            return isKnown(call) && isOpen[call] && hadBy[call] == thread;
        }

        int highestOpenRankOf(int thread) {
            int highest = NONE;
            for (int call = 0; call < made; call++) {
                if (isOpenOf(call, thread)) {
                    highest = Math.max(highest, rankOf[call]);
                }
            }
            return highest;
        }

        void dropUnsentOf(int thread) {
            for (int call = 0; call < made; call++) {
                if (isOpenOf(call, thread) && unitOf[call] == NONE) {
                    hadBy[call] = NONE;
                }
            }
        }

        void passOn(int thread, int heir) {
            for (int call = 0; call < made; call++) {
                if (isOpenOf(call, thread)) {
                    hadBy[call] = heir;
                }
            }
        }

        int openCount() {
            int open = 0;
            for (int call = 0; call < made; call++) {
                if (isOpen[call]) {
                    open++;
                }
            }
            return open;
        }
    }

    /** What was told: the first 100 rows, for no more are kept. */
    private static final class Rows {
        final int[] threadOf = new int[MOST_ROWS];
        final int[] faultOf = new int[MOST_ROWS];
        final int[] actOf = new int[MOST_ROWS];
        final int[] turnOf = new int[MOST_ROWS];
        int kept;

        Rows() {
            kept = 0;
        }

        boolean isKnown(int row) {
            return row >= 0 && row < kept;
        }

        void tell(int thread, int fault, int act, int turn) {
            if (kept >= MOST_ROWS) {
                return;
            }
            threadOf[kept] = thread;
            faultOf[kept] = fault;
            actOf[kept] = act;
            turnOf[kept] = turn;
            kept++;
        }
    }
}
