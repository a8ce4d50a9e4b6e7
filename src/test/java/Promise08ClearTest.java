/** Promise 8: clear. */
public final class Promise08ClearTest {
    private static final Check check = new Check();

    public static void main(String[] args) {
        empties();
        makesRoom();
        leavesNoOrder();
        keepsTheCounts();
        check.end();
    }

    private static void empties() {
        WeakOrderJudge x = new WeakOrderJudge(2, 2);
        x.initial(0, 5);
        x.initial(1, 6);
        x.load(0, 0, 0);
        x.store(0, 1, 9, 0);
        x.depend(1, 0, WeakOrderJudge.DATA);
        x.wantRead(0, 4);
        x.wantMemory(1, 3);
        x.solve();
        x.clear();
        check.due("wished(): not solved", x.wished(), WeakOrderJudge.NOT_SOLVED);
        check.due("memoryIn(0, 0): not solved", x.memoryIn(0, 0), WeakOrderJudge.NOT_SOLVED);
        check.due("events()", x.events(), 0);
        check.due("always(0, 1)", x.always(0, 1), WeakOrderJudge.BAD_EVENT);
        check.due("solve()", x.solve(), 1);
        check.due("memoryIn(0, 0)", x.memoryIn(0, 0), 0);
        check.due("memoryIn(0, 1)", x.memoryIn(0, 1), 0);
        check.due("wished(): the wish for the address is gone", x.wished(), 1);
        check.due("load(0, 0, 0)", x.load(0, 0, 0), 0);
        x.solve();
        check.due("wished(): the wish for event 0 is gone", x.wished(), 1);
        x.clear();
        check.due("a cleared object is not solved", x.wished(), WeakOrderJudge.NOT_SOLVED);
        x.clear();
        check.due("clear() twice", x.events(), 0);
    }

    private static void makesRoom() {
        WeakOrderJudge x = new WeakOrderJudge(2, 2);
        for (int round = 0; round < 3; round++) {
            for (int event = 0; event < 6; event++) {
                check.due("event " + event + " of round " + round, x.store(0, 0, 1, 0), event);
            }
            for (int fence = 0; fence < 8; fence++) {
                check.due("fence " + fence + " of round " + round, x.fence(1, 1), fence);
            }
            x.clear();
        }
    }

    private static void leavesNoOrder() {
        for (int kind = WeakOrderJudge.DATA; kind <= WeakOrderJudge.CONTROL; kind++) {
            WeakOrderJudge x = new WeakOrderJudge(1, 2);
            x.load(0, 0, 1);
            x.fence(0, WeakOrderJudge.FULL);
            x.add(0, 1, 1, 3);
            x.depend(1, 0, kind);
            check.due("always(0, 1)", x.always(0, 1), 1);
            x.clear();
            x.load(0, 0, 0);
            x.add(0, 1, 1, 0);
            check.due("always(0, 1) after clear()", x.always(0, 1), 0);
            check.due("depend(1, 0, " + kind + ") after clear()", x.depend(1, 0, kind), 0);
        }
    }

    private static void keepsTheCounts() {
        WeakOrderJudge x = new WeakOrderJudge(3, 2);
        x.clear();
        check.due("load(2, 1, 0)", x.load(2, 1, 0), 0);
        check.due("load(3, 1, 0)", x.load(3, 1, 0), WeakOrderJudge.BAD_THREAD);
        check.due("load(2, 2, 0)", x.load(2, 2, 0), WeakOrderJudge.BAD_ADDRESS);
    }
}
