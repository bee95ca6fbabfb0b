import java.util.List;

/** Ways to set up an object and to look at all of it. */
final class Scene {
    static final int RUNNING = 0;
    static final int ENDED = 1;
    static final int DEAD = 2;

    static final int PASSED_OVER = 0;
    static final int DONE = 1;
    static final int TOLD = 2;
    static final int FAULT = 3;
    static final int END = 4;
    static final int RESTS = 5;

    static final int NOBODY = -1;

    private static final List<String> KINDS =
            List.of("lock", "free", "take", "send", "close", "rest", "fail");

    private Scene() {}

    /** Adds acts such as "lock 3; take 0; send 5 0; fail": send names its unit and its call. */
    static void program(ServiceThreads x, int thread, String acts) {
        for (String act : acts.split("; *")) {
            String[] words = act.split(" ");
            int number = words.length < 2 ? 0 : Integer.parseInt(words[1]);
            if (words.length > 2) {
                number = 16 * number + Integer.parseInt(words[2]);
            }
            x.act(thread, KINDS.indexOf(words[0]), number);
        }
    }

    static void calls(ServiceThreads x, int... ranks) {
        for (int rank : ranks) {
            x.call(rank);
        }
    }

    /** Just below, just above and far outside of low .. high. */
    static int[] outside(int low, int high) {
        return new int[] {low - 1, high + 1, Integer.MIN_VALUE, Integer.MAX_VALUE};
    }

    static void steps(ServiceThreads x, String name, int thread, int... due) {
        for (int i = 0; i < due.length; i++) {
            Check.same(name + ": step " + i + " of thread " + thread, x.step(thread), due[i]);
        }
    }

    /** The thread's turn has this fault, and the latest row tells it. */
    static void fault(ServiceThreads x, String name, int thread, int fault) {
        int act = x.thread(thread, 1);
        Check.same(name + ": answer", x.step(thread), FAULT);
        Check.same(name + ": fault", x.thread(thread, 2), fault);
        latestRow(x, name, thread, fault, act);
    }

    static void latestRow(ServiceThreads x, String name, int thread, int fault, int act) {
        int row = x.count(1) - 1;
        if (row < 0) {
            Check.same(name + ": rows", row + 1, "one or more");
            return;
        }
        Check.same(name + ": the row's thread", x.row(row, 0), thread);
        Check.same(name + ": the row's fault", x.row(row, 1), fault);
        Check.same(name + ": the row's act", x.row(row, 2), act);
        Check.same(name + ": the row's turn", x.row(row, 3), x.count(0));
    }

    /** All that can be asked of an object; with many rows this takes some hundreds of calls. */
    static String lookAtAll(ServiceThreads x) {
        StringBuilder all = new StringBuilder("counts");
        for (int what = 0; what <= 5; what++) {
            all.append(' ').append(x.count(what));
        }
        for (int unit = 0; unit <= 9; unit++) {
            all.append("\nunit ").append(unit);
            all.append(' ').append(x.unit(unit, 0)).append(' ').append(x.unit(unit, 1));
        }
        for (int thread = 0; thread <= 7; thread++) {
            all.append("\nthread ").append(thread);
            for (int what = 0; what <= 5; what++) {
                all.append(' ').append(x.thread(thread, what));
            }
        }
        int call = 0;
        while (addCall(x, call, all)) {
            call++;
        }
        int rows = x.count(1);
        for (int row = 0; row < rows; row++) {
            all.append("\nrow ").append(row);
            for (int what = 0; what <= 3; what++) {
                all.append(' ').append(x.row(row, what));
            }
        }
        return all.toString();
    }

    private static boolean addCall(ServiceThreads x, int call, StringBuilder all) {
        try {
            int rank = x.callAt(call, 0);
            all.append("\ncall ").append(call).append(' ').append(rank);
            for (int what = 1; what <= 3; what++) {
                all.append(' ').append(x.callAt(call, what));
            }
            return true;
        } catch (IllegalArgumentException e) {
            return false;
        }
    }
}
