/** Promise 16: wantRead. */
public final class Promise16WantReadTest {
    private static final Check check = new Check();

    public static void main(String[] args) {
        refusals();
        wishes();
        solvedOrNot();
        check.end();
    }

    private static void refusals() {
        WeakOrderJudge x = new WeakOrderJudge(1, 1);
        check.due("wantRead(0, 0) without an event", x.wantRead(0, 0), WeakOrderJudge.BAD_EVENT);
        x.store(0, 0, 1, 0);
        x.load(0, 0, 0);
        check.due("wantRead(-1, 0)", x.wantRead(-1, 0), WeakOrderJudge.BAD_EVENT);
        check.due("wantRead(2, 0)", x.wantRead(2, 0), WeakOrderJudge.BAD_EVENT);
        check.due("wantRead(2, -1)", x.wantRead(2, -1), WeakOrderJudge.BAD_EVENT);
        check.due("wantRead(0, 0): a store", x.wantRead(0, 0), WeakOrderJudge.NOT_READING);
        check.due("wantRead(0, -1): a store", x.wantRead(0, -1), WeakOrderJudge.NOT_READING);
        x.solve();
        check.due("wished(): the refused ones wish nothing", x.wished(), 1);
    }

    private static void wishes() {
        WeakOrderJudge x = new WeakOrderJudge(2, 1);
        x.initial(0, 15);
        x.add(0, 0, 1, 0);
        x.load(1, 0, 0);
        x.solve();
        expect(x, 1, 0, 1);
        expect(x, 1, 15, 1);
        expect(x, 1, 7, 0);
        expect(x, 1, 16, 1);
        expect(x, 1, 23, 0);
        expect(x, 1, Integer.MAX_VALUE, 1);
        expect(x, 1, -1, 2);
        expect(x, 0, 15, 2);
        expect(x, 0, 0, 0);
        expect(x, 1, -5, 0);
        expect(x, 0, Integer.MIN_VALUE, 2);
        expect(x, 0, -1, 2);
    }

    private static void expect(WeakOrderJudge x, int event, int value, int due) {
        check.due("wantRead(" + event + ", " + value + ")", x.wantRead(event, value), 0);
        check.due("wished() after wantRead(" + event + ", " + value + ")", x.wished(), due);
    }

    private static void solvedOrNot() {
        WeakOrderJudge x = new WeakOrderJudge(1, 1);
        x.load(0, 0, 0);
        check.due("wantRead(0, 3) unsolved", x.wantRead(0, 3), 0);
        check.due("it does not solve", x.wished(), WeakOrderJudge.NOT_SOLVED);
        x.solve();
        check.due("the wish stands", x.wished(), 0);
        x.initial(0, 3);
        x.solve();
        check.due("the wish outlives a change", x.wished(), 1);
    }
}
