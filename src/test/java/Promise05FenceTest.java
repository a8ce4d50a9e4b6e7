/** Promise 5: fence. */
public final class Promise05FenceTest {
    private static final int LOADS = WeakOrderJudge.LOADS;
    private static final int FULL = WeakOrderJudge.FULL;

    private static final Check check = new Check();

    public static void main(String[] args) {
        check.test("BAD_THREAD if thread is not a thread", Promise05FenceTest::badThread);
        check.test("BAD_KIND if kind is not LOADS, STORES or FULL", Promise05FenceTest::badKind);
        check.test("NO_ROOM if there are 8 fences", Promise05FenceTest::noRoom);
        check.test("answers the number of fences that there were before the call", Promise05FenceTest::newNumber);
        check.test("the refusals are tested in the order in which they are listed", Promise05FenceTest::order);
        check.test("a refused call changes nothing", Promise05FenceTest::changesNothing);
        check.test("a call that is not refused makes the object not solved", Promise05FenceTest::notSolved);
        check.test("its place is the present number of events; between: a < p and p <= b", Promise05FenceTest::places);
        check.test("the place counts the events of all threads", Promise05FenceTest::placeOfAllThreads);
        check.test("the last of 8 fences counts as the first does", Promise05FenceTest::theEighthCounts);
        check.end();
    }

    private static void due(WeakOrderJudge x, int thread, int kind, int due) {
        check.due("fence(" + thread + ", " + kind + ")", x.fence(thread, kind), due);
    }

    private static void badThread() {
        for (int threads = 1; threads <= 4; threads++) {
            for (int thread : Edges.inside(0, threads - 1)) {
                due(new WeakOrderJudge(threads, 1), thread, FULL, 0);
            }
            for (int thread : Edges.outside(0, threads - 1)) {
                due(new WeakOrderJudge(threads, 1), thread, FULL, WeakOrderJudge.BAD_THREAD);
            }
        }
    }

    private static void badKind() {
        for (int kind = LOADS; kind <= FULL; kind++) {
            due(new WeakOrderJudge(1, 1), 0, kind, 0);
        }
        for (int kind : Edges.outside(LOADS, FULL)) {
            due(new WeakOrderJudge(1, 1), 0, kind, WeakOrderJudge.BAD_KIND);
        }
    }

    private static void noRoom() {
        for (int events = 0; events <= 6; events++) {
            WeakOrderJudge x = new WeakOrderJudge(2, 1);
            for (int event = 0; event < events; event++) {
                x.load(0, 0, 0);
            }
            for (int fence = 0; fence < 7; fence++) {
                x.fence(fence % 2, 1 + fence % 3);
            }
            due(x, 1, FULL, 7);
            for (int kind = LOADS; kind <= FULL; kind++) {
                due(x, 0, kind, WeakOrderJudge.NO_ROOM);
                due(x, 1, kind, WeakOrderJudge.NO_ROOM);
            }
            check.due("events(): a fence is none", x.events(), events);
            check.due("events have room of their own", x.load(1, 0, 0), events < 6 ? events : WeakOrderJudge.NO_ROOM);
        }
    }

    private static void newNumber() {
        WeakOrderJudge x = new WeakOrderJudge(4, 1);
        for (int round = 0; round < 2; round++) {
            for (int fence = 0; fence < 8; fence++) {
                due(x, fence % 4, 1 + fence % 3, fence);
            }
            x.clear();
        }
    }

    private static void order() {
        for (int thread : new int[] {-1, 2}) {
            for (int kind : new int[] {0, 4}) {
                WeakOrderJudge x = new WeakOrderJudge(2, 1);
                due(x, thread, kind, WeakOrderJudge.BAD_THREAD);
                for (int fence = 0; fence < 8; fence++) {
                    x.fence(0, FULL);
                }
                due(x, thread, kind, WeakOrderJudge.BAD_THREAD);
                due(x, thread, FULL, WeakOrderJudge.BAD_THREAD);
                due(x, 1, kind, WeakOrderJudge.BAD_KIND);
                due(x, 1, FULL, WeakOrderJudge.NO_ROOM);
            }
        }
    }

    private static void changesNothing() {
        for (Programs program : Programs.ALL) {
            refused(program, -1, FULL, WeakOrderJudge.BAD_THREAD);
            refused(program, program.threads(), FULL, WeakOrderJudge.BAD_THREAD);
            refused(program, 0, 0, WeakOrderJudge.BAD_KIND);
            refused(program, 0, 4, WeakOrderJudge.BAD_KIND);
        }
        for (int kind = LOADS; kind <= FULL; kind++) {
            refused(Programs.FULL, 0, kind, WeakOrderJudge.NO_ROOM);
            refused(Programs.LOOSE, 0, kind, WeakOrderJudge.NO_ROOM);
        }
    }

    private static void refused(Programs program, int thread, int kind, int refusal) {
        new Twins(check).changesNothing("fence(" + thread + ", " + kind + ")", program, x -> x.fence(thread, kind), refusal);
    }

    private static void notSolved() {
        WeakOrderJudge x = new WeakOrderJudge(1, 1);
        for (int fence = 0; fence < 8; fence++) {
            x.solve();
            check.due("wished() before", x.wished(), 1);
            due(x, 0, FULL, fence);
            check.due("wished() then", x.wished(), WeakOrderJudge.NOT_SOLVED);
        }
        x.solve();
        due(x, 0, FULL, WeakOrderJudge.NO_ROOM);
        check.due("wished() after the ninth", x.wished(), 1);
    }

    /** Six events, three of each thread, all of a thread at other addresses, and one fence at every place. */
    private static void places() {
        for (int place = 0; place <= 6; place++) {
            for (int thread = 0; thread < 3; thread++) {
                WeakOrderJudge x = new WeakOrderJudge(3, 3);
                for (int event = 0; event < 6; event++) {
                    if (event == place) {
                        x.fence(thread, FULL);
                    }
                    x.load(event % 2, event / 2, 0);
                }
                if (place == 6) {
                    x.fence(thread, FULL);
                }
                bindsAcross(x, thread, place);
            }
        }
    }

    private static void bindsAcross(WeakOrderJudge x, int thread, int place) {
        for (int a = 0; a < 6; a++) {
            for (int b = 0; b < 6; b++) {
                boolean between = a % 2 == thread && b % 2 == thread && a < place && place <= b;
                check.due("place " + place + ", thread " + thread + ": always(" + a + ", " + b + ")",
                    x.always(a, b), between ? 1 : 0);
            }
        }
    }

    private static void placeOfAllThreads() {
        WeakOrderJudge x = new WeakOrderJudge(2, 2);
        x.load(0, 0, 0);
        x.load(1, 0, 0);
        x.fence(0, FULL);
        x.load(1, 1, 0);
        x.load(0, 1, 0);
        check.due("always(0, 3)", x.always(0, 3), 1);
        check.due("always(1, 2): a fence of the other thread", x.always(1, 2), 0);
        check.due("always(0, 2): another thread", x.always(0, 2), 0);
    }

    private static void theEighthCounts() {
        for (int counting = 0; counting < 8; counting++) {
            WeakOrderJudge x = new WeakOrderJudge(2, 2);
            x.load(0, 0, 0);
            for (int fence = 0; fence < 8; fence++) {
                due(x, fence == counting ? 0 : 1, FULL, fence);
            }
            x.load(0, 1, 0);
            check.due("always(0, 1) with fence " + counting, x.always(0, 1), 1);
        }
    }
}
