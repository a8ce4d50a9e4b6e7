/** Promise 13: runIn. */
public final class Promise13RunInTest {
    private static final Check check = new Check();

    public static void main(String[] args) {
        new OutcomeCalls(check, "runIn", WeakOrderJudge.BAD_PLACE, WeakOrderJudge::runIn).tests();
        check.test("the empty program has no place", Promise13RunInTest::noEvent);
        check.test("one event, one place", Promise13RunInTest::oneEvent);
        check.test("of all runs that have it, the least", Promise13RunInTest::leastOfMany);
        check.test("each outcome has its own least run", Promise13RunInTest::leastRunsOfAnOutcome);
        check.test("the least run is a run", Promise13RunInTest::obeysTheOrder);
        check.test("six events: the least runs of the first and the last outcome", Promise13RunInTest::firstAndLast);
        check.end();
    }

    private static void noEvent() {
        WeakOrderJudge x = new WeakOrderJudge(2, 1);
        x.solve();
        check.due("runIn(0, 0)", x.runIn(0, 0), WeakOrderJudge.BAD_PLACE);
        check.due("runIn(0, -1)", x.runIn(0, -1), WeakOrderJudge.BAD_PLACE);
        check.due("runIn(1, 0)", x.runIn(1, 0), WeakOrderJudge.NO_OUTCOME);
    }

    private static void oneEvent() {
        WeakOrderJudge x = new WeakOrderJudge(2, 1);
        x.store(1, 0, 1, 0);
        x.solve();
        run(x, 0, 0);
        check.due("runIn(0, 1)", x.runIn(0, 1), WeakOrderJudge.BAD_PLACE);
    }

    // Four add to address 0 and two to address 1: the last outcome has both groups backwards.
    private static void firstAndLast() {
        WeakOrderJudge x = new WeakOrderJudge(4, 2);
        for (int event = 0; event < 6; event++) {
            x.add(event % 4, event / 4, event < 4 ? 1 << event : 1 + event, 0);
        }
        check.due("solve()", x.solve(), 48);
        check.due("readIn(47, 0)", x.readIn(47, 0), 14);
        run(x, 47, 3, 2, 1, 0, 5, 4);
        run(x, 0, 0, 1, 2, 3, 4, 5);
    }

    private static void run(WeakOrderJudge x, int outcome, int... due) {
        for (int place = 0; place < due.length; place++) {
            check.due("runIn(" + outcome + ", " + place + ")", x.runIn(outcome, place), due[place]);
        }
    }

    private static void leastOfMany() {
        WeakOrderJudge x = new WeakOrderJudge(4, 1);
        for (int event = 0; event < 6; event++) {
            x.load(event % 4, 0, 0);
        }
        check.due("solve()", x.solve(), 1);
        run(x, 0, 0, 1, 2, 3, 4, 5);
    }

    // Only the order of events 1 and 2 tells the outcomes apart; event 0 stands first, event 3 last.
    private static void leastRunsOfAnOutcome() {
        WeakOrderJudge x = new WeakOrderJudge(3, 2);
        x.load(0, 1, 0);
        x.load(1, 0, 0);
        x.store(2, 0, 1, 0);
        x.load(0, 1, 0);
        check.due("solve()", x.solve(), 2);
        run(x, 0, 0, 1, 2, 3);
        run(x, 1, 0, 2, 1, 3);
        x.clear();
        x.store(0, 0, 1, 0);
        x.load(1, 0, 0);
        x.store(2, 0, 0, 0);
        check.due("solve()", x.solve(), 4);
        run(x, 0, 0, 2, 1);
        run(x, 1, 1, 2, 0);
        run(x, 2, 0, 1, 2);
        run(x, 3, 2, 0, 1);
    }

    private static void obeysTheOrder() {
        WeakOrderJudge x = new WeakOrderJudge(2, 2);
        x.load(0, 0, 0);
        x.store(0, 1, 1, 1);
        x.load(1, 1, 1);
        x.store(1, 0, 1, 0);
        check.due("solve()", x.solve(), 3);
        run(x, 0, 0, 2, 1, 3);
        run(x, 1, 0, 1, 2, 3);
        run(x, 2, 2, 3, 0, 1);
    }
}
