/** Promise 3: store. */
public final class Promise03StoreTest {
    private static final Check check = new Check();

    public static void main(String[] args) {
        refusals();
        constants();
        marks();
        check.end();
    }

    private static void refusals() {
        WeakOrderJudge x = new WeakOrderJudge(3, 1);
        check.due("store(-1, 0, 1, 0)", x.store(-1, 0, 1, 0), WeakOrderJudge.BAD_THREAD);
        check.due("store(3, 1, 1, 2)", x.store(3, 1, 1, 2), WeakOrderJudge.BAD_THREAD);
        check.due("store(0, -1, 1, 0)", x.store(0, -1, 1, 0), WeakOrderJudge.BAD_ADDRESS);
        check.due("store(2, 1, 1, 2)", x.store(2, 1, 1, 2), WeakOrderJudge.BAD_ADDRESS);
        check.due("store(2, 0, 1, 2)", x.store(2, 0, 1, 2), WeakOrderJudge.BAD_KIND);
        check.due("store(2, 0, 1, 3)", x.store(2, 0, 1, 3), WeakOrderJudge.BAD_KIND);
        check.due("store(2, 0, 1, -1)", x.store(2, 0, 1, -1), WeakOrderJudge.BAD_KIND);
        x.solve();
        x.store(0, 0, 7, 2);
        check.due("a refused store leaves it solved", x.wished(), 1);
        for (int event = 0; event < 6; event++) {
            check.due("store number " + event, x.store(event % 3, 0, event, event % 2), event);
        }
        check.due("a store makes it not solved", x.wished(), WeakOrderJudge.NOT_SOLVED);
        check.due("a seventh store", x.store(0, 0, 1, 0), WeakOrderJudge.NO_ROOM);
        check.due("a seventh store with a bad mark", x.store(0, 0, 1, 2), WeakOrderJudge.BAD_KIND);
        check.due("events()", x.events(), 6);
    }

    private static void constants() {
        writes(0, 0);
        writes(9, 9);
        writes(15, 15);
        writes(16, 0);
        writes(37, 5);
        writes(-1, 15);
        writes(-16, 0);
        writes(Integer.MAX_VALUE, 15);
        writes(Integer.MIN_VALUE, 0);
    }

    private static void writes(int value, int due) {
        WeakOrderJudge x = new WeakOrderJudge(1, 2);
        x.initial(1, 3);
        x.initial(0, 4);
        x.store(0, 1, value, 0);
        x.solve();
        check.due("the end value of store(0, 1, " + value + ", 0)", x.memoryIn(0, 1), due);
        check.due("the other address", x.memoryIn(0, 0), 4);
        check.due("readIn(0, 0)", x.readIn(0, 0), WeakOrderJudge.NOT_READING);
    }

    private static void marks() {
        WeakOrderJudge x = new WeakOrderJudge(1, 3);
        x.store(0, 0, 1, 0);
        x.store(0, 1, 1, 1);
        x.store(0, 2, 1, 0);
        check.due("always(0, 1): releasing", x.always(0, 1), 1);
        check.due("always(1, 2): unmarked", x.always(1, 2), 0);
        check.due("always(0, 2): unmarked", x.always(0, 2), 0);
    }
}
