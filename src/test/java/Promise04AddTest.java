/** Promise 4: add. */
public final class Promise04AddTest {
    private static final Check check = new Check();

    public static void main(String[] args) {
        refusals();
        amounts();
        marks();
        check.end();
    }

    private static void refusals() {
        WeakOrderJudge x = new WeakOrderJudge(1, 2);
        check.due("add(-1, 0, 1, 0)", x.add(-1, 0, 1, 0), WeakOrderJudge.BAD_THREAD);
        check.due("add(1, 2, 1, 4)", x.add(1, 2, 1, 4), WeakOrderJudge.BAD_THREAD);
        check.due("add(0, -1, 1, 4)", x.add(0, -1, 1, 4), WeakOrderJudge.BAD_ADDRESS);
        check.due("add(0, 2, 1, 0)", x.add(0, 2, 1, 0), WeakOrderJudge.BAD_ADDRESS);
        check.due("add(0, 0, 1, -1)", x.add(0, 0, 1, -1), WeakOrderJudge.BAD_KIND);
        check.due("add(0, 0, 1, 4)", x.add(0, 0, 1, 4), WeakOrderJudge.BAD_KIND);
        x.solve();
        x.add(0, 0, 1, 4);
        check.due("a refused add leaves it solved", x.wished(), 1);
        for (int event = 0; event < 6; event++) {
            check.due("add number " + event, x.add(0, event % 2, event, event % 4), event);
        }
        check.due("an add makes it not solved", x.wished(), WeakOrderJudge.NOT_SOLVED);
        check.due("a seventh add", x.add(0, 0, 1, 0), WeakOrderJudge.NO_ROOM);
        check.due("a seventh add with a bad mark", x.add(0, 0, 1, 4), WeakOrderJudge.BAD_KIND);
        check.due("events()", x.events(), 6);
    }

    private static void amounts() {
        sums(0, 0, 0);
        sums(3, 4, 7);
        sums(9, 9, 2);
        sums(15, 1, 0);
        sums(5, 16, 5);
        sums(5, -1, 4);
        sums(0, -1, 15);
        sums(1, Integer.MAX_VALUE, 0);
        sums(6, Integer.MIN_VALUE, 6);
    }

    private static void sums(int old, int amount, int due) {
        String call = "add(0, 0, " + amount + ", 0) on " + old + ": ";
        WeakOrderJudge x = new WeakOrderJudge(1, 1);
        x.initial(0, old);
        x.add(0, 0, amount, 0);
        check.due(call + "outcomes", x.solve(), 1);
        check.due(call + "reads the old value", x.readIn(0, 0), old);
        check.due(call + "writes the sum", x.memoryIn(0, 0), due);
    }

    private static void marks() {
        int[] before = {0, 0, 1, 1};
        int[] after = {0, 1, 0, 1};
        for (int mark = 0; mark < 4; mark++) {
            WeakOrderJudge x = new WeakOrderJudge(1, 3);
            x.load(0, 0, 0);
            x.add(0, 1, 1, mark);
            x.load(0, 2, 0);
            check.due("mark " + mark + ": always(0, 1)", x.always(0, 1), before[mark]);
            check.due("mark " + mark + ": always(1, 2)", x.always(1, 2), after[mark]);
            check.due("mark " + mark + ": always(0, 2)", x.always(0, 2), mark == 3 ? 1 : 0);
        }
    }
}
