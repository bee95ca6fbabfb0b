/** The document's face, so that the class and the plain model can be given the same calls. */
interface Face {
    int act(int thread, int kind, int number);

    void finish(int thread, int act);

    int call(int rank);

    int step(int thread);

    int run(long schedule, int n);

    void kill(int thread);

    void restart(int thread);

    void lease(int turns);

    int close();

    int unit(int unit, int what);

    int callAt(int call, int what);

    int thread(int thread, int what);

    int row(int i, int what);

    int count(int what);

    static Face ofTheClass() {
        ServiceThreads x = new ServiceThreads();
        return new Face() {
            @Override
            public int act(int thread, int kind, int number) {
                return x.act(thread, kind, number);
            }

            @Override
            public void finish(int thread, int act) {
                x.finish(thread, act);
            }

            @Override
            public int call(int rank) {
                return x.call(rank);
            }

            @Override
            public int step(int thread) {
                return x.step(thread);
            }

            @Override
            public int run(long schedule, int n) {
                return x.run(schedule, n);
            }

            @Override
            public void kill(int thread) {
                x.kill(thread);
            }

            @Override
            public void restart(int thread) {
                x.restart(thread);
            }

            @Override
            public void lease(int turns) {
                x.lease(turns);
            }

            @Override
            public int close() {
                return x.close();
            }

            @Override
            public int unit(int unit, int what) {
                return x.unit(unit, what);
            }

            @Override
            public int callAt(int call, int what) {
                return x.callAt(call, what);
            }

            @Override
            public int thread(int thread, int what) {
                return x.thread(thread, what);
            }

            @Override
            public int row(int i, int what) {
                return x.row(i, what);
            }

            @Override
            public int count(int what) {
                return x.count(what);
            }
        };
    }
}
