/** Promise 5: fence. */
public final class Promise05FenceTest {
    private static final Check check = new Check();

    public static void main(String[] args) {
        refusals();
        places();
        afterTheFact();
        theEighthCounts();
        check.end();
    }

    private static void refusals() {
        WeakOrderJudge x = new WeakOrderJudge(2, 1);
        check.due("fence(-1, 1)", x.fence(-1, 1), WeakOrderJudge.BAD_THREAD);
        check.due("fence(2, 0)", x.fence(2, 0), WeakOrderJudge.BAD_THREAD);
        check.due("fence(0, 0)", x.fence(0, 0), WeakOrderJudge.BAD_KIND);
        check.due("fence(0, 4)", x.fence(0, 4), WeakOrderJudge.BAD_KIND);
        check.due("fence(0, -1)", x.fence(0, -1), WeakOrderJudge.BAD_KIND);
        x.solve();
        x.fence(0, 0);
        check.due("a refused fence leaves it solved", x.wished(), 1);
        for (int fence = 0; fence < 8; fence++) {
            check.due("fence number " + fence, x.fence(fence % 2, 1 + fence % 3), fence);
        }
        check.due("a fence makes it not solved", x.wished(), WeakOrderJudge.NOT_SOLVED);
        check.due("a ninth fence", x.fence(1, 3), WeakOrderJudge.NO_ROOM);
        check.due("a ninth fence of a bad kind", x.fence(1, 4), WeakOrderJudge.BAD_KIND);
        check.due("a ninth fence of a bad thread", x.fence(4, 4), WeakOrderJudge.BAD_THREAD);
        check.due("events(): a fence is none", x.events(), 0);
        check.due("there is room for events still", x.load(0, 0, 0), 0);
    }

    private static void places() {
        for (int place = 0; place <= 3; place++) {
            for (int thread = 0; thread < 2; thread++) {
                WeakOrderJudge x = new WeakOrderJudge(2, 3);
                for (int event = 0; event < 3; event++) {
                    if (event == place) {
                        x.fence(thread, WeakOrderJudge.FULL);
                    }
                    x.load(0, event, 0);
                }
                if (place == 3) {
                    x.fence(thread, WeakOrderJudge.FULL);
                }
                for (int a = 0; a < 3; a++) {
                    for (int b = a + 1; b < 3; b++) {
                        boolean between = thread == 0 && a < place && place <= b;
                        check.due("place " + place + ", thread " + thread + ": always(" + a + ", " + b + ")",
                            x.always(a, b), between ? 1 : 0);
                    }
                }
            }
        }
    }

    // The place counts the events of all threads, not only those of the fence's own.
    private static void afterTheFact() {
        WeakOrderJudge x = new WeakOrderJudge(2, 2);
        x.load(0, 0, 0);
        x.load(1, 0, 0);
        x.fence(0, WeakOrderJudge.FULL);
        x.load(1, 1, 0);
        x.load(0, 1, 0);
        check.due("always(0, 3)", x.always(0, 3), 1);
        check.due("always(1, 2): a fence of the other thread", x.always(1, 2), 0);
        check.due("always(0, 2): another thread", x.always(0, 2), 0);
    }

    private static void theEighthCounts() {
        WeakOrderJudge x = new WeakOrderJudge(2, 2);
        x.load(0, 0, 0);
        for (int fence = 0; fence < 7; fence++) {
            x.fence(1, WeakOrderJudge.FULL);
        }
        check.due("the eighth fence", x.fence(0, WeakOrderJudge.FULL), 7);
        x.load(0, 1, 0);
        check.due("always(0, 1)", x.always(0, 1), 1);
    }
}
