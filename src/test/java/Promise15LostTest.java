/** Promise 15: lost. */
public final class Promise15LostTest {
    private static final Check check = new Check();

    public static void main(String[] args) {
        new SolvedOrNot(check, "lost", x -> x.lost(0, 1)).tests();
        new EventPairs(check, "lost", WeakOrderJudge::lost).tests();
        check.test("BAD_PAIR if a = b", Promise15LostTest::badPair);
        check.test("the refusals are tested in the order in which they are listed", Promise15LostTest::order);
        check.test("neither a refused call nor another changes anything", Promise15LostTest::changesNothing);
        check.test("how many outcomes belong to no run in which a comes before b", Promise15LostTest::messagePassing);
        check.test("if no run at all has a before b, it is the number of all outcomes", Promise15LostTest::noRunAtAll);
        check.test("any run of an outcome counts, not the least alone", Promise15LostTest::severalRunsOfOneOutcome);
        check.test("every run counts, the first and the last of 720 too", Promise15LostTest::everyOrderIsTried);
        check.end();
    }

    private static void badPair() {
        for (int events = 1; events <= 6; events++) {
            WeakOrderJudge x = new WeakOrderJudge(1, 1);
            for (int event = 0; event < events; event++) {
                x.load(0, 0, 0);
            }
            x.solve();
            for (int a = 0; a < events; a++) {
                for (int b = 0; b < events; b++) {
                    int due = a < b ? 0 : 1;
                    check.due("lost(" + a + ", " + b + ")", x.lost(a, b), a == b ? WeakOrderJudge.BAD_PAIR : due);
                }
            }
        }
    }

    private static void order() {
        for (Programs program : Programs.ALL) {
            for (int bad : new int[] {-1, program.events()}) {
                check.due("lost(" + bad + ", " + bad + ") unsolved", program.unsolved().lost(bad, bad), WeakOrderJudge.NOT_SOLVED);
                check.due("lost(" + bad + ", 0) unsolved", program.unsolved().lost(bad, 0), WeakOrderJudge.NOT_SOLVED);
                check.due("lost(0, " + bad + ") unsolved", program.unsolved().lost(0, bad), WeakOrderJudge.NOT_SOLVED);
                check.due("lost(" + bad + ", " + bad + ")", program.solved().lost(bad, bad), WeakOrderJudge.BAD_EVENT);
            }
        }
        check.due("lost(1, 1) unsolved", Programs.SOME.unsolved().lost(1, 1), WeakOrderJudge.NOT_SOLVED);
        check.due("lost(1, 1)", Programs.SOME.solved().lost(1, 1), WeakOrderJudge.BAD_PAIR);
    }

    private static void changesNothing() {
        Twins twins = new Twins(check);
        for (Programs program : Programs.ALL) {
            twins.unsolvedStays("lost(0, 1)", program, x -> x.lost(0, 1), WeakOrderJudge.NOT_SOLVED);
        }
        twins.solvedStays("lost(3, 3)", Programs.SOME, x -> x.lost(3, 3), WeakOrderJudge.BAD_PAIR);
        twins.solvedStays("lost(0, 0)", Programs.LOOSE, x -> x.lost(0, 0), WeakOrderJudge.BAD_PAIR);
        twins.solvedStays("lost(5, 5)", Programs.FULL, x -> x.lost(5, 5), WeakOrderJudge.BAD_PAIR);
        twins.solvedStays("lost(1, 0)", Programs.SOME, x -> x.lost(1, 0), 3);
        twins.solvedStays("lost(2, 0)", Programs.FULL, x -> x.lost(2, 0), 6);
    }

    private static void messagePassing() {
        WeakOrderJudge x = new WeakOrderJudge(2, 2);
        x.store(0, 0, 1, 0);
        x.store(0, 1, 1, 1);
        x.load(1, 1, 0);
        x.load(1, 0, 0);
        check.due("solve()", x.solve(), 4);
        check.due("lost(2, 3)", x.lost(2, 3), 1);
        check.due("lost(3, 2)", x.lost(3, 2), 0);
        check.due("lost(0, 1)", x.lost(0, 1), 0);
        check.due("lost(1, 0)", x.lost(1, 0), 4);
        check.due("lost(0, 3)", x.lost(0, 3), 2);
        check.due("lost(1, 3)", x.lost(1, 3), 2);
        check.due("lost(3, 1)", x.lost(3, 1), 0);
    }

    private static void noRunAtAll() {
        WeakOrderJudge x = new WeakOrderJudge(2, 2);
        x.load(0, 0, 0);
        x.store(1, 0, 1, 0);
        x.load(0, 0, 0);
        check.due("solve()", x.solve(), 3);
        check.due("lost(2, 0)", x.lost(2, 0), 3);
        check.due("lost(0, 2)", x.lost(0, 2), 0);
        check.due("lost(1, 0)", x.lost(1, 0), 2);
        check.due("lost(0, 1)", x.lost(0, 1), 1);
        check.due("lost(1, 2)", x.lost(1, 2), 1);
    }

    // A run that is not the least one counts as well.
    private static void severalRunsOfOneOutcome() {
        WeakOrderJudge x = new WeakOrderJudge(4, 3);
        for (int event = 0; event < 6; event++) {
            x.load(event % 2, event / 2, 0);
        }
        check.due("solve()", x.solve(), 1);
        for (int a = 0; a < 6; a++) {
            for (int b = 0; b < 6; b++) {
                check.due("lost(" + a + ", " + b + ")", x.lost(a, b), a == b ? WeakOrderJudge.BAD_PAIR : 0);
            }
        }
    }

    // All 720 orders are runs. Of the outcome with 5, 4, 3, 2 and 1, 0 in these orders, the very last order is the
    // only one that has 2 before 1, and of that with 2, 3, 4, 5 and 0, 1 the very first alone has 1 before 2.
    private static void everyOrderIsTried() {
        WeakOrderJudge x = new WeakOrderJudge(4, 2);
        x.add(0, 1, 1, 0);
        x.add(1, 1, 2, 0);
        for (int thread = 0; thread < 4; thread++) {
            x.add(thread, 0, 1 << thread, 0);
        }
        check.due("solve()", x.solve(), 48);
        for (int a = 0; a < 6; a++) {
            for (int b = 0; b < 6; b++) {
                boolean oneAddress = a < 2 == b < 2;
                int due = oneAddress ? 24 : 0;
                check.due("lost(" + a + ", " + b + ")", x.lost(a, b), a == b ? WeakOrderJudge.BAD_PAIR : due);
            }
        }
    }
}
