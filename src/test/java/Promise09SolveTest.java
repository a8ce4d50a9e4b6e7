/** Promise 9: solve. */
public final class Promise09SolveTest {
    private static final Check check = new Check();

    public static void main(String[] args) {
        noEvent();
        storeBuffering();
        loadBuffering();
        sameOutcomesAreOne();
        mostOutcomes();
        sixLooseEvents();
        again();
        check.end();
    }

    private static void noEvent() {
        WeakOrderJudge x = new WeakOrderJudge(4, 3);
        check.due("solve() without an event", x.solve(), 1);
        x.fence(0, WeakOrderJudge.FULL);
        check.due("solve() with a fence alone", x.solve(), 1);
    }

    private static void storeBuffering() {
        int[] due = {4, 3};
        for (int fences = 0; fences < 2; fences++) {
            WeakOrderJudge x = new WeakOrderJudge(2, 2);
            for (int thread = 0; thread < 2; thread++) {
                x.store(thread, thread, 1, 0);
                if (fences == 1) {
                    x.fence(thread, WeakOrderJudge.FULL);
                }
                x.load(thread, 1 - thread, 0);
            }
            check.due("store buffering, fences " + fences, x.solve(), due[fences]);
        }
    }

    private static void loadBuffering() {
        int[] due = {4, 3};
        for (int bound = 0; bound < 2; bound++) {
            WeakOrderJudge x = new WeakOrderJudge(2, 2);
            for (int thread = 0; thread < 2; thread++) {
                int read = x.load(thread, thread, 0);
                int written = x.store(thread, 1 - thread, 1, 0);
                if (bound == 1) {
                    x.depend(written, read, WeakOrderJudge.CONTROL);
                }
            }
            check.due("load buffering, bound " + bound, x.solve(), due[bound]);
        }
    }

    private static void sameOutcomesAreOne() {
        WeakOrderJudge x = new WeakOrderJudge(4, 1);
        for (int thread = 0; thread < 4; thread++) {
            x.store(thread, 0, 5, 0);
        }
        check.due("four equal stores", x.solve(), 1);
        x.store(0, 0, 6, 0);
        check.due("and one other", x.solve(), 2);
        x.clear();
        x.store(0, 0, 16, 0);
        x.load(1, 0, 0);
        check.due("a store of what is there", x.solve(), 1);
    }

    private static void mostOutcomes() {
        WeakOrderJudge x = new WeakOrderJudge(4, 1);
        int[] threads = {0, 0, 1, 1, 2, 3};
        int[] amounts = {1, 2, 3, 4, 5, 7};
        for (int event = 0; event < 6; event++) {
            x.add(threads[event], 0, amounts[event], 0);
        }
        check.due("six additions of four threads", x.solve(), 180);
        check.due("the last one is there", x.readIn(179, 0) >= 0 ? 1 : 0, 1);
        check.due("the next one is not", x.readIn(180, 0), WeakOrderJudge.NO_OUTCOME);
    }

    // All 720 orders are runs here: no two events of one thread have one address.
    private static void sixLooseEvents() {
        WeakOrderJudge x = new WeakOrderJudge(2, 3);
        for (int thread = 0; thread < 2; thread++) {
            for (int address = 0; address < 3; address++) {
                x.add(thread, address, 1 + thread, 0);
            }
        }
        check.due("three pairs of additions", x.solve(), 8);
        int[] leastRunOfTheLast = {3, 0, 4, 1, 5, 2};
        for (int place = 0; place < 6; place++) {
            check.due("runIn(7, " + place + ")", x.runIn(7, place), leastRunOfTheLast[place]);
        }
        check.due("lost(5, 0): two addresses", x.lost(5, 0), 0);
        check.due("lost(4, 1): one address", x.lost(4, 1), 4);
    }

    private static void again() {
        WeakOrderJudge x = new WeakOrderJudge(2, 1);
        x.store(0, 0, 1, 0);
        x.load(1, 0, 0);
        check.due("solve()", x.solve(), 2);
        check.due("solve() again", x.solve(), 2);
        check.due("wished()", x.wished(), 2);
        x.store(1, 0, 2, 0);
        check.due("solve() of more", x.solve(), 3);
        x.clear();
        check.due("solve() of less", x.solve(), 1);
        check.due("memoryIn(1, 0)", x.memoryIn(1, 0), WeakOrderJudge.NO_OUTCOME);
    }
}
