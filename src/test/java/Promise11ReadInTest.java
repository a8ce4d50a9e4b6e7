/** Promise 11: readIn, and the numbering of the outcomes by what was read. */
public final class Promise11ReadInTest {
    private static final Check check = new Check();

    public static void main(String[] args) {
        new OutcomeCalls(check, "readIn", WeakOrderJudge.BAD_EVENT, WeakOrderJudge::readIn).tests();
        check.test("NOT_READING if it is a store", Promise11ReadInTest::notReading);
        check.test("a call refused with NOT_READING changes nothing", () -> {
            Twins twins = new Twins(check);
            twins.solvedStays("readIn(0, 1)", Programs.SOME, x -> x.readIn(0, 1), WeakOrderJudge.NOT_READING);
            twins.solvedStays("readIn(7, 4)", Programs.LOOSE, x -> x.readIn(7, 4), WeakOrderJudge.NOT_READING);
            twins.solvedStays("readIn(5, 5)", Programs.FULL, x -> x.readIn(5, 5), WeakOrderJudge.NOT_READING);
        });
        check.test("NOT_READING is tested after all others", Promise11ReadInTest::notReadingLast);
        check.test("outcomes are numbered by the value that event 0 read, then event 1", Promise11ReadInTest::numbering);
        check.test("an event that does not read counts as 0", Promise11ReadInTest::storesCountAsNothing);
        check.test("all six events, with values from 15 down", Promise11ReadInTest::everyPlaceOfTheKey);
        check.end();
    }

    private static void notReading() {
        for (int mark = 0; mark <= 1; mark++) {
            for (int event = 0; event < 6; event++) {
                for (int value : new int[] {0, 15}) {
                    WeakOrderJudge x = new WeakOrderJudge(1, 1);
                    for (int other = 0; other < event; other++) {
                        x.add(0, 0, 1, 0);
                    }
                    x.store(0, 0, value, mark);
                    x.solve();
                    check.due("readIn(0, " + event + ")", x.readIn(0, event), WeakOrderJudge.NOT_READING);
                }
            }
        }
    }

    private static void notReadingLast() {
        WeakOrderJudge x = new WeakOrderJudge(1, 1);
        x.store(0, 0, 1, 0);
        check.due("readIn(0, 0) unsolved", x.readIn(0, 0), WeakOrderJudge.NOT_SOLVED);
        x.solve();
        check.due("readIn(1, 0)", x.readIn(1, 0), WeakOrderJudge.NO_OUTCOME);
        check.due("readIn(-1, 0)", x.readIn(-1, 0), WeakOrderJudge.NO_OUTCOME);
        check.due("readIn(0, 1)", x.readIn(0, 1), WeakOrderJudge.BAD_EVENT);
        check.due("readIn(0, -1)", x.readIn(0, -1), WeakOrderJudge.BAD_EVENT);
        check.due("readIn(0, 0)", x.readIn(0, 0), WeakOrderJudge.NOT_READING);
    }

    // The store of 15 comes first in number, but only what the load read and the end value may count.
    private static void storesCountAsNothing() {
        WeakOrderJudge x = new WeakOrderJudge(2, 1);
        x.store(0, 0, 15, 0);
        x.store(1, 0, 1, 0);
        check.due("solve()", x.solve(), 2);
        check.due("memoryIn(0, 0)", x.memoryIn(0, 0), 1);
        check.due("memoryIn(1, 0)", x.memoryIn(1, 0), 15);
        x.load(0, 0, 0);
        check.due("solve() with a load", x.solve(), 3);
        int[] read = {1, 15, 15};
        int[] end = {1, 1, 15};
        for (int outcome = 0; outcome < 3; outcome++) {
            check.due("readIn(" + outcome + ", 2)", x.readIn(outcome, 2), read[outcome]);
            check.due("memoryIn(" + outcome + ", 0)", x.memoryIn(outcome, 0), end[outcome]);
        }
    }

    // The value 15 of an earlier event must weigh more than any of a later one.
    private static void numbering() {
        WeakOrderJudge x = new WeakOrderJudge(3, 2);
        x.load(0, 0, 0);
        x.load(1, 1, 0);
        x.store(2, 0, 1, 0);
        x.store(2, 1, 15, 0);
        check.due("solve()", x.solve(), 4);
        int[] first = {0, 0, 1, 1};
        int[] second = {0, 15, 0, 15};
        for (int outcome = 0; outcome < 4; outcome++) {
            check.due("readIn(" + outcome + ", 0)", x.readIn(outcome, 0), first[outcome]);
            check.due("readIn(" + outcome + ", 1)", x.readIn(outcome, 1), second[outcome]);
        }
    }

    private static void everyPlaceOfTheKey() {
        WeakOrderJudge x = new WeakOrderJudge(1, 1);
        x.initial(0, 15);
        for (int event = 0; event < 6; event++) {
            x.add(0, 0, 15, 0);
        }
        check.due("solve()", x.solve(), 1);
        for (int event = 0; event < 6; event++) {
            check.due("readIn(0, " + event + ")", x.readIn(0, event), 15 - event);
        }
        check.due("memoryIn(0, 0)", x.memoryIn(0, 0), 9);
    }
}
