/** Promise 6: depend. */
public final class Promise06DependTest {
    private static final int DATA = WeakOrderJudge.DATA;
    private static final int ADDRESS = WeakOrderJudge.ADDRESS;
    private static final int CONTROL = WeakOrderJudge.CONTROL;

    private static final Check check = new Check();

    public static void main(String[] args) {
        refusals();
        orderOfRefusals();
        oneOfEachKind();
        solvedOrNot();
        dataIsAdded();
        check.end();
    }

    private static WeakOrderJudge someEvents() {
        WeakOrderJudge x = new WeakOrderJudge(2, 3);
        x.load(0, 0, 0);
        x.store(0, 1, 1, 0);
        x.add(0, 2, 1, 0);
        x.load(1, 0, 0);
        x.load(0, 1, 0);
        return x;
    }

    private static void refusals() {
        WeakOrderJudge x = someEvents();
        check.due("depend(5, 0, 1)", x.depend(5, 0, DATA), WeakOrderJudge.BAD_EVENT);
        check.due("depend(-1, 0, 1)", x.depend(-1, 0, DATA), WeakOrderJudge.BAD_EVENT);
        check.due("depend(1, -1, 1)", x.depend(1, -1, DATA), WeakOrderJudge.BAD_EVENT);
        check.due("depend(1, 5, 1)", x.depend(1, 5, DATA), WeakOrderJudge.BAD_EVENT);
        check.due("depend(3, 0, 2): two threads", x.depend(3, 0, ADDRESS), WeakOrderJudge.BAD_PAIR);
        check.due("depend(4, 3, 2): two threads", x.depend(4, 3, ADDRESS), WeakOrderJudge.BAD_PAIR);
        check.due("depend(0, 2, 2): the wrong way", x.depend(0, 2, ADDRESS), WeakOrderJudge.BAD_PAIR);
        check.due("depend(2, 2, 2): on itself", x.depend(2, 2, ADDRESS), WeakOrderJudge.BAD_PAIR);
        check.due("depend(2, 1, 2): on a store", x.depend(2, 1, ADDRESS), WeakOrderJudge.BAD_PAIR);
        check.due("depend(2, 0, 0)", x.depend(2, 0, 0), WeakOrderJudge.BAD_KIND);
        check.due("depend(2, 0, 4)", x.depend(2, 0, 4), WeakOrderJudge.BAD_KIND);
        check.due("depend(2, 0, -1)", x.depend(2, 0, -1), WeakOrderJudge.BAD_KIND);
        check.due("depend(4, 0, 1): data to a load", x.depend(4, 0, DATA), WeakOrderJudge.BAD_PAIR);
        check.due("depend(4, 0, 2): address of a load", x.depend(4, 0, ADDRESS), 0);
        check.due("depend(4, 2, 3): control of a load", x.depend(4, 2, CONTROL), 0);
        check.due("depend(1, 0, 1): data to a store", x.depend(1, 0, DATA), 0);
        check.due("depend(2, 0, 1): data to an addition", x.depend(2, 0, DATA), 0);
    }

    private static void orderOfRefusals() {
        WeakOrderJudge x = someEvents();
        check.due("depend(9, 9, 9)", x.depend(9, 9, 9), WeakOrderJudge.BAD_EVENT);
        check.due("depend(3, 0, 9)", x.depend(3, 0, 9), WeakOrderJudge.BAD_PAIR);
        check.due("depend(2, 1, 9)", x.depend(2, 1, 9), WeakOrderJudge.BAD_PAIR);
        check.due("depend(2, 0, 2)", x.depend(2, 0, ADDRESS), 0);
        check.due("depend(2, 1, 2) after it", x.depend(2, 1, ADDRESS), WeakOrderJudge.BAD_PAIR);
        check.due("depend(2, 0, 9) after it", x.depend(2, 0, 9), WeakOrderJudge.BAD_KIND);
        check.due("depend(2, 0, 2) again", x.depend(2, 0, ADDRESS), WeakOrderJudge.ALREADY);
    }

    private static void oneOfEachKind() {
        WeakOrderJudge x = new WeakOrderJudge(1, 3);
        x.load(0, 0, 0);
        x.load(0, 1, 0);
        x.store(0, 2, 1, 0);
        for (int kind = DATA; kind <= CONTROL; kind++) {
            check.due("depend(2, 0, " + kind + ")", x.depend(2, 0, kind), 0);
            check.due("depend(2, 0, " + kind + ") again", x.depend(2, 0, kind), WeakOrderJudge.ALREADY);
            check.due("depend(2, 1, " + kind + ") too", x.depend(2, 1, kind), WeakOrderJudge.ALREADY);
        }
        check.due("always(1, 2): the refused ones do not bind", x.always(1, 2), 0);
        check.due("always(0, 2)", x.always(0, 2), 1);
    }

    private static void solvedOrNot() {
        WeakOrderJudge x = someEvents();
        x.solve();
        x.depend(9, 0, 1);
        x.depend(2, 1, 1);
        x.depend(2, 0, 9);
        check.holds("refused ones leave it solved", x.wished() >= 0);
        x.depend(2, 0, DATA);
        check.due("wished() after depend", x.wished(), WeakOrderJudge.NOT_SOLVED);
        x.solve();
        x.depend(2, 0, DATA);
        check.holds("ALREADY leaves it solved", x.wished() >= 0);
    }

    private static void dataIsAdded() {
        WeakOrderJudge x = new WeakOrderJudge(1, 3);
        x.initial(0, 7);
        x.initial(2, 12);
        x.load(0, 0, 0);
        x.store(0, 1, 5, 0);
        x.add(0, 2, 4, 0);
        x.store(0, 0, 3, 0);
        x.depend(1, 0, DATA);
        x.depend(2, 0, DATA);
        x.depend(3, 2, DATA);
        check.due("solve()", x.solve(), 1);
        check.due("the store's constant and what was read", x.memoryIn(0, 1), 12);
        check.due("readIn(0, 2)", x.readIn(0, 2), 12);
        check.due("the addition's old value, constant and what was read", x.memoryIn(0, 2), (12 + 4 + 7) & 15);
        check.due("what an addition read, not what it wrote", x.memoryIn(0, 0), (3 + 12) & 15);
        onlyDataIsAdded(ADDRESS);
        onlyDataIsAdded(CONTROL);
    }

    private static void onlyDataIsAdded(int kind) {
        WeakOrderJudge x = new WeakOrderJudge(1, 2);
        x.initial(0, 7);
        x.load(0, 0, 0);
        x.store(0, 1, 5, 0);
        x.depend(1, 0, kind);
        x.solve();
        check.due("kind " + kind + " adds nothing", x.memoryIn(0, 1), 5);
    }
}
