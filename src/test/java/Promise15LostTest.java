/** Promise 15: lost. */
public final class Promise15LostTest {
    private static final Check check = new Check();

    public static void main(String[] args) {
        refusals();
        messagePassing();
        noRunAtAll();
        severalRunsOfOneOutcome();
        everyOrderIsTried();
        check.end();
    }

    private static void refusals() {
        WeakOrderJudge x = new WeakOrderJudge(2, 1);
        x.store(0, 0, 1, 0);
        x.load(1, 0, 0);
        check.due("lost(9, 9) unsolved", x.lost(9, 9), WeakOrderJudge.NOT_SOLVED);
        x.solve();
        check.due("lost(9, 9)", x.lost(9, 9), WeakOrderJudge.BAD_EVENT);
        check.due("lost(-1, 0)", x.lost(-1, 0), WeakOrderJudge.BAD_EVENT);
        check.due("lost(0, -1)", x.lost(0, -1), WeakOrderJudge.BAD_EVENT);
        check.due("lost(0, 2)", x.lost(0, 2), WeakOrderJudge.BAD_EVENT);
        check.due("lost(2, 0)", x.lost(2, 0), WeakOrderJudge.BAD_EVENT);
        check.due("lost(1, 1)", x.lost(1, 1), WeakOrderJudge.BAD_PAIR);
        check.due("lost(0, 1)", x.lost(0, 1), 1);
        check.due("lost(1, 0)", x.lost(1, 0), 1);
        check.due("lost leaves it solved", x.solve(), 2);
        x.initial(0, 3);
        check.due("lost(0, 1) after a change", x.lost(0, 1), WeakOrderJudge.NOT_SOLVED);
    }

    private static void messagePassing() {
        WeakOrderJudge x = new WeakOrderJudge(2, 2);
        x.store(0, 0, 1, 0);
        x.store(0, 1, 1, 1);
        x.load(1, 1, 0);
        x.load(1, 0, 0);
        check.due("solve()", x.solve(), 4);
        check.due("lost(2, 3)", x.lost(2, 3), 1);
        check.due("lost(3, 2)", x.lost(3, 2), 0);
        check.due("lost(0, 1)", x.lost(0, 1), 0);
        check.due("lost(1, 0)", x.lost(1, 0), 4);
        check.due("lost(0, 3)", x.lost(0, 3), 2);
        check.due("lost(1, 3)", x.lost(1, 3), 2);
        check.due("lost(3, 1)", x.lost(3, 1), 0);
    }

    private static void noRunAtAll() {
        WeakOrderJudge x = new WeakOrderJudge(2, 2);
        x.load(0, 0, 0);
        x.store(1, 0, 1, 0);
        x.load(0, 0, 0);
        check.due("solve()", x.solve(), 3);
        check.due("lost(2, 0)", x.lost(2, 0), 3);
        check.due("lost(0, 2)", x.lost(0, 2), 0);
        check.due("lost(1, 0)", x.lost(1, 0), 2);
        check.due("lost(0, 1)", x.lost(0, 1), 1);
        check.due("lost(1, 2)", x.lost(1, 2), 1);
    }

    // A run that is not the least one counts as well.
    private static void severalRunsOfOneOutcome() {
        WeakOrderJudge x = new WeakOrderJudge(4, 3);
        for (int event = 0; event < 6; event++) {
            x.load(event % 2, event / 2, 0);
        }
        check.due("solve()", x.solve(), 1);
        for (int a = 0; a < 6; a++) {
            for (int b = 0; b < 6; b++) {
                check.due("lost(" + a + ", " + b + ")", x.lost(a, b), a == b ? WeakOrderJudge.BAD_PAIR : 0);
            }
        }
    }

    // All 720 orders are runs. Of the outcome with 5, 4, 3, 2 and 1, 0 in these orders, the very last order is the
    // only one that has 2 before 1, and of that with 2, 3, 4, 5 and 0, 1 the very first alone has 1 before 2.
    private static void everyOrderIsTried() {
        WeakOrderJudge x = new WeakOrderJudge(4, 2);
        x.add(0, 1, 1, 0);
        x.add(1, 1, 2, 0);
        for (int thread = 0; thread < 4; thread++) {
            x.add(thread, 0, 1 << thread, 0);
        }
        check.due("solve()", x.solve(), 48);
        for (int a = 0; a < 6; a++) {
            for (int b = 0; b < 6; b++) {
                boolean oneAddress = a < 2 == b < 2;
                int due = oneAddress ? 24 : 0;
                check.due("lost(" + a + ", " + b + ")", x.lost(a, b), a == b ? WeakOrderJudge.BAD_PAIR : due);
            }
        }
    }
}
