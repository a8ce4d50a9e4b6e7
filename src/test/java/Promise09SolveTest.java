/** Promise 9: solve. */
public final class Promise09SolveTest {
    private static final Check check = new Check();

    public static void main(String[] args) {
        check.test("a program with no event has exactly one run and one outcome", Promise09SolveTest::noEvent);
        check.test("one event has one run", Promise09SolveTest::oneEvent);
        check.test("answers the number of different outcomes", Promise09SolveTest::differentOutcomes);
        check.test("two outcomes are the same if all values are the same", Promise09SolveTest::sameOutcomesAreOne);
        check.test("store buffering", Promise09SolveTest::storeBuffering);
        check.test("load buffering", Promise09SolveTest::loadBuffering);
        check.test("never more than 180 different outcomes", Promise09SolveTest::mostOutcomes);
        check.test("six events that may come in all 720 orders", Promise09SolveTest::sixLooseEvents);
        check.test("six events that may come in one order alone", Promise09SolveTest::sixBoundEvents);
        check.test("the full program: 6 events and 8 fences", Promise09SolveTest::full);
        check.test("the object is solved then", Promise09SolveTest::solvedThen);
        check.test("solve() again finds the same and changes nothing", Promise09SolveTest::again);
        check.test("it keeps the outcomes of the last solve() alone", Promise09SolveTest::lastSolve);
        check.end();
    }

    private static void noEvent() {
        for (int threads = 1; threads <= 4; threads++) {
            for (int addresses = 1; addresses <= 3; addresses++) {
                WeakOrderJudge x = new WeakOrderJudge(threads, addresses);
                check.due("solve()", x.solve(), 1);
                for (int address = 0; address < addresses; address++) {
                    check.due("memoryIn(0, " + address + ")", x.memoryIn(0, address), 0);
                }
                check.due("memoryIn(1, 0)", x.memoryIn(1, 0), WeakOrderJudge.NO_OUTCOME);
                check.due("readIn(0, 0)", x.readIn(0, 0), WeakOrderJudge.BAD_EVENT);
                check.due("runIn(0, 0)", x.runIn(0, 0), WeakOrderJudge.BAD_PLACE);
                check.due("lost(0, 1)", x.lost(0, 1), WeakOrderJudge.BAD_EVENT);
                check.due("wished()", x.wished(), 1);
            }
        }
        WeakOrderJudge x = new WeakOrderJudge(1, 1);
        for (int fence = 0; fence < 8; fence++) {
            x.fence(0, WeakOrderJudge.FULL);
            check.due("solve() with fences alone", x.solve(), 1);
        }
        x.initial(0, 15);
        check.due("solve() with an initial value", x.solve(), 1);
        check.due("memoryIn(0, 0)", x.memoryIn(0, 0), 15);
    }

    private static void oneEvent() {
        WeakOrderJudge x = new WeakOrderJudge(1, 1);
        x.load(0, 0, 0);
        check.due("solve() of a load", x.solve(), 1);
        x.clear();
        x.store(0, 0, 1, 0);
        check.due("solve() of a store", x.solve(), 1);
        x.clear();
        x.add(0, 0, 1, 0);
        check.due("solve() of an addition", x.solve(), 1);
    }

    private static void differentOutcomes() {
        int[] due = {1, 2, 6, 24};
        for (int threads = 1; threads <= 4; threads++) {
            WeakOrderJudge x = new WeakOrderJudge(4, 1);
            for (int thread = 0; thread < threads; thread++) {
                x.add(thread, 0, 1 << thread, 0);
            }
            check.due("solve() of " + threads + " additions", x.solve(), due[threads - 1]);
        }
    }

    private static void sameOutcomesAreOne() {
        WeakOrderJudge x = new WeakOrderJudge(4, 1);
        for (int thread = 0; thread < 4; thread++) {
            x.store(thread, 0, 5, 0);
        }
        check.due("four equal stores", x.solve(), 1);
        x.store(0, 0, 6, 0);
        check.due("and one other", x.solve(), 2);
        x.clear();
        x.store(0, 0, 16, 0);
        x.load(1, 0, 0);
        check.due("a store of what is there", x.solve(), 1);
    }

    private static void storeBuffering() {
        int[] due = {4, 3};
        for (int fences = 0; fences < 2; fences++) {
            WeakOrderJudge x = new WeakOrderJudge(2, 2);
            for (int thread = 0; thread < 2; thread++) {
                x.store(thread, thread, 1, 0);
                if (fences == 1) {
                    x.fence(thread, WeakOrderJudge.FULL);
                }
                x.load(thread, 1 - thread, 0);
            }
            check.due("solve(), fences " + fences, x.solve(), due[fences]);
        }
    }

    private static void loadBuffering() {
        int[] due = {4, 3};
        for (int bound = 0; bound < 2; bound++) {
            WeakOrderJudge x = new WeakOrderJudge(2, 2);
            for (int thread = 0; thread < 2; thread++) {
                int read = x.load(thread, thread, 0);
                int written = x.store(thread, 1 - thread, 1, 0);
                if (bound == 1) {
                    x.depend(written, read, WeakOrderJudge.CONTROL);
                }
            }
            check.due("solve(), bound " + bound, x.solve(), due[bound]);
        }
    }

    private static void mostOutcomes() {
        WeakOrderJudge x = OutcomeCalls.additions(0, 0, 1, 1, 2, 3);
        check.due("solve()", x.solve(), 180);
        check.due("wished()", x.wished(), 180);
        check.due("readIn(0, 0)", x.readIn(0, 0), 0);
        check.due("the last one: what event 0 read", x.readIn(179, 0), 15);
        check.due("the next one", x.readIn(180, 0), WeakOrderJudge.NO_OUTCOME);
        check.due("lost(1, 0): no run at all", x.lost(1, 0), 180);
        check.due("lost(0, 1)", x.lost(0, 1), 0);
        check.due("lost(5, 4): one half", x.lost(5, 4), 90);
        check.due("solve() again", x.solve(), 180);
    }

    // No two events of one thread have one address.
    private static void sixLooseEvents() {
        WeakOrderJudge x = new WeakOrderJudge(2, 3);
        for (int thread = 0; thread < 2; thread++) {
            for (int address = 0; address < 3; address++) {
                x.add(thread, address, 1 + thread, 0);
            }
        }
        check.due("solve()", x.solve(), 8);
        int[] leastRunOfTheLast = {3, 0, 4, 1, 5, 2};
        for (int place = 0; place < 6; place++) {
            check.due("runIn(7, " + place + ")", x.runIn(7, place), leastRunOfTheLast[place]);
        }
        check.due("lost(5, 0): two addresses", x.lost(5, 0), 0);
        check.due("lost(4, 1): one address", x.lost(4, 1), 4);
    }

    private static void sixBoundEvents() {
        WeakOrderJudge x = new WeakOrderJudge(1, 1);
        for (int event = 0; event < 6; event++) {
            x.add(0, 0, 3, 0);
        }
        check.due("solve()", x.solve(), 1);
        for (int event = 0; event < 6; event++) {
            check.due("runIn(0, " + event + ")", x.runIn(0, event), event);
            check.due("readIn(0, " + event + ")", x.readIn(0, event), 3 * event);
        }
        check.due("memoryIn(0, 0)", x.memoryIn(0, 0), (3 * 6) & 15);
    }

    private static void full() {
        WeakOrderJudge x = Programs.FULL.unsolved();
        check.due("solve()", x.solve(), 6);
        int[][] read = {{14, 0, 6, 0, 15, 0}, {14, 0, 6, 1, 15, 0}, {14, 0, 14, 0, 15, 0},
            {14, 0, 14, 1, 15, 0}, {15, 0, 6, 1, 15, 0}, {15, 0, 14, 1, 15, 0}};
        int[][] end = {{14, 0, 9}, {14, 0, 9}, {14, 0, 6}, {14, 0, 6}, {14, 1, 9}, {14, 1, 6}};
        for (int outcome = 0; outcome < 6; outcome++) {
            for (int event = 0; event < 6; event++) {
                boolean store = event == 1 || event == 5;
                check.due("readIn(" + outcome + ", " + event + ")", x.readIn(outcome, event),
                    store ? WeakOrderJudge.NOT_READING : read[outcome][event]);
            }
            for (int address = 0; address < 3; address++) {
                check.due("memoryIn(" + outcome + ", " + address + ")", x.memoryIn(outcome, address), end[outcome][address]);
            }
        }
        check.due("wished()", x.wished(), 1);
    }

    private static void solvedThen() {
        for (Programs program : Programs.ALL) {
            WeakOrderJudge x = program.unsolved();
            check.due("wished() before, " + program.name(), x.wished(), WeakOrderJudge.NOT_SOLVED);
            x.solve();
            check.due("wished() then, " + program.name(), x.wished(), 1);
        }
    }

    private static void again() {
        for (Programs program : Programs.ALL) {
            int outcomes = program.unsolved().solve();
            new Twins(check).solvedStays("solve()", program, WeakOrderJudge::solve, outcomes);
        }
    }

    private static void lastSolve() {
        WeakOrderJudge x = new WeakOrderJudge(2, 1);
        x.store(0, 0, 1, 0);
        x.load(1, 0, 0);
        check.due("solve()", x.solve(), 2);
        x.store(1, 0, 2, 0);
        check.due("solve() of more", x.solve(), 3);
        check.due("memoryIn(2, 0)", x.memoryIn(2, 0), 2);
        x.clear();
        check.due("solve() of less", x.solve(), 1);
        check.due("memoryIn(0, 0)", x.memoryIn(0, 0), 0);
        check.due("memoryIn(1, 0)", x.memoryIn(1, 0), WeakOrderJudge.NO_OUTCOME);
    }
}
