/** Promise 7: initial. */
public final class Promise07InitialTest {
    private static final Check check = new Check();

    public static void main(String[] args) {
        WeakOrderJudge x = new WeakOrderJudge(1, 2);
        x.solve();
        check.due("initial(-1, 1)", x.initial(-1, 1), WeakOrderJudge.BAD_ADDRESS);
        check.due("initial(2, 1)", x.initial(2, 1), WeakOrderJudge.BAD_ADDRESS);
        check.due("initial(MAX, 1)", x.initial(Integer.MAX_VALUE, 1), WeakOrderJudge.BAD_ADDRESS);
        check.due("a refused one leaves it solved", x.wished(), 1);
        check.due("initial(0, 0): the same value", x.initial(0, 0), 0);
        check.due("it makes it not solved all the same", x.wished(), WeakOrderJudge.NOT_SOLVED);
        starts(x, 3, 3);
        starts(x, 15, 15);
        starts(x, 16, 0);
        starts(x, 27, 11);
        starts(x, -1, 15);
        starts(x, -15, 1);
        starts(x, Integer.MIN_VALUE, 0);
        starts(x, Integer.MAX_VALUE, 15);
        afterTheEvents();
        check.end();
    }

    private static void starts(WeakOrderJudge x, int value, int due) {
        check.due("initial(1, " + value + ")", x.initial(1, value), 0);
        x.solve();
        check.due("initial(1, " + value + "): memoryIn(0, 1)", x.memoryIn(0, 1), due);
        check.due("initial(1, " + value + "): memoryIn(0, 0)", x.memoryIn(0, 0), 0);
    }

    private static void afterTheEvents() {
        WeakOrderJudge x = new WeakOrderJudge(1, 1);
        x.load(0, 0, 0);
        x.solve();
        x.initial(0, 6);
        check.due("readIn(0, 0) before solve()", x.readIn(0, 0), WeakOrderJudge.NOT_SOLVED);
        x.solve();
        check.due("readIn(0, 0)", x.readIn(0, 0), 6);
    }
}
