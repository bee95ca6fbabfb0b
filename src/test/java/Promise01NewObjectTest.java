/** Promise 1: a new object has no programs and no calls. */
public final class Promise01NewObjectTest {
    public static void main(String[] args) {
        ServiceThreads x = new ServiceThreads();
        for (int what = 0; what <= 5; what++) {
            Check.same("count(" + what + ") of a new object", x.count(what), 0);
        }
        for (int thread = 0; thread <= 7; thread++) {
            for (int what = 0; what <= 5; what++) {
                Check.same("thread(" + thread + ", " + what + ")", x.thread(thread, what), 0);
            }
        }
        for (int unit = 0; unit <= 9; unit++) {
            Check.same("who locks unit " + unit, x.unit(unit, 0), Scene.NOBODY);
            Check.same("where unit " + unit + " is sent", x.unit(unit, 1), Scene.NOBODY);
        }
        Check.refuses("a call of a new object", IllegalArgumentException.class, () -> x.callAt(0, 0));
        Check.refuses("a row of a new object", IllegalArgumentException.class, () -> x.row(0, 0));
        twoObjectsShareNothing();
        Check.end();
    }

    private static void twoObjectsShareNothing() {
        ServiceThreads x = new ServiceThreads();
        ServiceThreads y = new ServiceThreads();
        Scene.program(x, 0, "lock 3; fail");
        x.call(2);
        x.run(0L, 2);
        Check.same("another object", Scene.lookAtAll(y), Scene.lookAtAll(new ServiceThreads()));
    }
}
