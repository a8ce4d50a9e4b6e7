/** Promise 11: readIn, and the numbering of the outcomes by what was read. */
public final class Promise11ReadInTest {
    private static final Check check = new Check();

    public static void main(String[] args) {
        refusals();
        numbering();
        everyPlaceOfTheKey();
        check.end();
    }

    private static void refusals() {
        WeakOrderJudge x = new WeakOrderJudge(2, 1);
        x.store(0, 0, 1, 0);
        x.load(1, 0, 0);
        check.due("readIn(9, 9) unsolved", x.readIn(9, 9), WeakOrderJudge.NOT_SOLVED);
        x.solve();
        check.due("readIn(2, 9)", x.readIn(2, 9), WeakOrderJudge.NO_OUTCOME);
        check.due("readIn(-1, 1)", x.readIn(-1, 1), WeakOrderJudge.NO_OUTCOME);
        check.due("readIn(MAX, 1)", x.readIn(Integer.MAX_VALUE, 1), WeakOrderJudge.NO_OUTCOME);
        check.due("readIn(0, 2)", x.readIn(0, 2), WeakOrderJudge.BAD_EVENT);
        check.due("readIn(0, -1)", x.readIn(0, -1), WeakOrderJudge.BAD_EVENT);
        check.due("readIn(0, 0): a store", x.readIn(0, 0), WeakOrderJudge.NOT_READING);
        check.due("readIn(0, 1)", x.readIn(0, 1), 0);
        check.due("readIn(1, 1)", x.readIn(1, 1), 1);
        x.load(0, 0, 0);
        check.due("readIn(0, 1) after a change", x.readIn(0, 1), WeakOrderJudge.NOT_SOLVED);
    }

    // The value 15 of an earlier event must weigh more than any of a later one.
    private static void numbering() {
        WeakOrderJudge x = new WeakOrderJudge(3, 2);
        x.load(0, 0, 0);
        x.load(1, 1, 0);
        x.store(2, 0, 1, 0);
        x.store(2, 1, 15, 0);
        check.due("solve()", x.solve(), 4);
        int[] first = {0, 0, 1, 1};
        int[] second = {0, 15, 0, 15};
        for (int outcome = 0; outcome < 4; outcome++) {
            check.due("readIn(" + outcome + ", 0)", x.readIn(outcome, 0), first[outcome]);
            check.due("readIn(" + outcome + ", 1)", x.readIn(outcome, 1), second[outcome]);
        }
    }

    private static void everyPlaceOfTheKey() {
        WeakOrderJudge x = new WeakOrderJudge(1, 1);
        x.initial(0, 15);
        for (int event = 0; event < 6; event++) {
            x.add(0, 0, 15, 0);
        }
        check.due("solve()", x.solve(), 1);
        for (int event = 0; event < 6; event++) {
            check.due("readIn(0, " + event + ")", x.readIn(0, event), 15 - event);
        }
        check.due("memoryIn(0, 0)", x.memoryIn(0, 0), 9);
    }
}
