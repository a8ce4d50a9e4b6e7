/** Promise 2: load. */
public final class Promise02LoadTest {
    private static final Check check = new Check();

    public static void main(String[] args) {
        refusals();
        room();
        reads();
        marks();
        check.end();
    }

    private static void refusals() {
        WeakOrderJudge x = new WeakOrderJudge(2, 2);
        check.due("load(-1, 0, 0)", x.load(-1, 0, 0), WeakOrderJudge.BAD_THREAD);
        check.due("load(2, 0, 0)", x.load(2, 0, 0), WeakOrderJudge.BAD_THREAD);
        check.due("load(2, 2, 2)", x.load(2, 2, 2), WeakOrderJudge.BAD_THREAD);
        check.due("load(0, -1, 0)", x.load(0, -1, 0), WeakOrderJudge.BAD_ADDRESS);
        check.due("load(1, 2, 0)", x.load(1, 2, 0), WeakOrderJudge.BAD_ADDRESS);
        check.due("load(1, 2, 5)", x.load(1, 2, 5), WeakOrderJudge.BAD_ADDRESS);
        check.due("load(1, 1, 2)", x.load(1, 1, 2), WeakOrderJudge.BAD_KIND);
        check.due("load(1, 1, -1)", x.load(1, 1, -1), WeakOrderJudge.BAD_KIND);
        check.due("load(1, 1, MAX)", x.load(1, 1, Integer.MAX_VALUE), WeakOrderJudge.BAD_KIND);
        check.due("load(MIN, 1, 1)", x.load(Integer.MIN_VALUE, 1, 1), WeakOrderJudge.BAD_THREAD);
        check.due("events() after refusals", x.events(), 0);
        x.solve();
        x.load(0, 0, 2);
        check.due("a refused load leaves it solved", x.wished(), 1);
        check.due("load(0, 0, 0)", x.load(0, 0, 0), 0);
        check.due("a load makes it not solved", x.wished(), WeakOrderJudge.NOT_SOLVED);
    }

    private static void room() {
        WeakOrderJudge x = new WeakOrderJudge(2, 2);
        for (int event = 0; event < 6; event++) {
            check.due("load number " + event, x.load(event % 2, event / 3, event % 2), event);
        }
        check.due("a seventh load", x.load(0, 0, 0), WeakOrderJudge.NO_ROOM);
        check.due("a seventh load with a bad mark", x.load(0, 0, 2), WeakOrderJudge.BAD_KIND);
        check.due("events()", x.events(), 6);
    }

    private static void reads() {
        WeakOrderJudge x = new WeakOrderJudge(1, 2);
        x.initial(1, 11);
        x.load(0, 1, 0);
        x.load(0, 0, 0);
        check.due("solve()", x.solve(), 1);
        check.due("readIn(0, 0)", x.readIn(0, 0), 11);
        check.due("readIn(0, 1)", x.readIn(0, 1), 0);
        check.due("memoryIn(0, 1): a load writes nothing", x.memoryIn(0, 1), 11);
    }

    private static void marks() {
        WeakOrderJudge x = new WeakOrderJudge(1, 3);
        x.load(0, 0, 0);
        x.load(0, 1, 1);
        x.load(0, 2, 0);
        check.due("always(0, 1): unmarked", x.always(0, 1), 0);
        check.due("always(0, 2): unmarked", x.always(0, 2), 0);
        check.due("always(1, 2): acquiring", x.always(1, 2), 1);
    }
}
