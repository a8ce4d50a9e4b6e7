/** Promise 13: runIn. */
public final class Promise13RunInTest {
    private static final Check check = new Check();

    public static void main(String[] args) {
        refusals();
        leastOfMany();
        leastRunsOfAnOutcome();
        obeysTheOrder();
        check.end();
    }

    private static void refusals() {
        WeakOrderJudge x = new WeakOrderJudge(2, 1);
        check.due("runIn(9, 9) unsolved", x.runIn(9, 9), WeakOrderJudge.NOT_SOLVED);
        x.solve();
        check.due("runIn(0, 0) without an event", x.runIn(0, 0), WeakOrderJudge.BAD_PLACE);
        x.store(0, 0, 1, 0);
        x.load(1, 0, 0);
        x.solve();
        check.due("runIn(2, 9)", x.runIn(2, 9), WeakOrderJudge.NO_OUTCOME);
        check.due("runIn(-1, 0)", x.runIn(-1, 0), WeakOrderJudge.NO_OUTCOME);
        check.due("runIn(0, 2)", x.runIn(0, 2), WeakOrderJudge.BAD_PLACE);
        check.due("runIn(0, -1)", x.runIn(0, -1), WeakOrderJudge.BAD_PLACE);
        check.due("runIn(0, MAX)", x.runIn(0, Integer.MAX_VALUE), WeakOrderJudge.BAD_PLACE);
        run(x, 0, 1, 0);
        run(x, 1, 0, 1);
    }

    private static void run(WeakOrderJudge x, int outcome, int... due) {
        for (int place = 0; place < due.length; place++) {
            check.due("runIn(" + outcome + ", " + place + ")", x.runIn(outcome, place), due[place]);
        }
    }

    private static void leastOfMany() {
        WeakOrderJudge x = new WeakOrderJudge(4, 1);
        for (int event = 0; event < 6; event++) {
            x.load(event % 4, 0, 0);
        }
        check.due("solve()", x.solve(), 1);
        run(x, 0, 0, 1, 2, 3, 4, 5);
    }

    // Only the order of events 1 and 2 tells the outcomes apart; event 0 stands first, event 3 last.
    private static void leastRunsOfAnOutcome() {
        WeakOrderJudge x = new WeakOrderJudge(3, 2);
        x.load(0, 1, 0);
        x.load(1, 0, 0);
        x.store(2, 0, 1, 0);
        x.load(0, 1, 0);
        check.due("solve()", x.solve(), 2);
        run(x, 0, 0, 1, 2, 3);
        run(x, 1, 0, 2, 1, 3);
        x.clear();
        x.store(0, 0, 1, 0);
        x.load(1, 0, 0);
        x.store(2, 0, 0, 0);
        check.due("solve()", x.solve(), 4);
        run(x, 0, 0, 2, 1);
        run(x, 1, 1, 2, 0);
        run(x, 2, 0, 1, 2);
        run(x, 3, 2, 0, 1);
    }

    private static void obeysTheOrder() {
        WeakOrderJudge x = new WeakOrderJudge(2, 2);
        x.load(0, 0, 0);
        x.store(0, 1, 1, 1);
        x.load(1, 1, 1);
        x.store(1, 0, 1, 0);
        check.due("solve()", x.solve(), 3);
        run(x, 0, 0, 2, 1, 3);
        run(x, 1, 0, 1, 2, 3);
        run(x, 2, 2, 3, 0, 1);
    }
}
