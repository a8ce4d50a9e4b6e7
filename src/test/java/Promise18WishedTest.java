/** Promise 18: wished. */
public final class Promise18WishedTest {
    private static final Check check = new Check();

    public static void main(String[] args) {
        someWishes();
        allWishesThatThereCanBe();
        check.end();
    }

    private static void someWishes() {
        WeakOrderJudge x = new WeakOrderJudge(2, 2);
        check.due("wished() of a new object", x.wished(), WeakOrderJudge.NOT_SOLVED);
        x.store(0, 0, 1, 0);
        x.load(0, 1, 0);
        x.store(1, 1, 1, 0);
        x.load(1, 0, 0);
        check.due("wished() unsolved", x.wished(), WeakOrderJudge.NOT_SOLVED);
        x.solve();
        check.due("wished() without a wish", x.wished(), 4);
        x.wantRead(1, 0);
        check.due("wished() with one wish", x.wished(), 2);
        x.wantRead(3, 0);
        check.due("wished() with two wishes", x.wished(), 1);
        x.wantMemory(0, 1);
        x.wantMemory(1, 1);
        check.due("wished() with all wishes", x.wished(), 1);
        x.wantMemory(1, 0);
        check.due("wished() with one that never holds", x.wished(), 0);
        x.wantMemory(1, -1);
        x.wantRead(1, -1);
        check.due("wished() with less wishes", x.wished(), 2);
        x.fence(0, WeakOrderJudge.FULL);
        check.due("wished() after a change", x.wished(), WeakOrderJudge.NOT_SOLVED);
        x.solve();
        check.due("wishes outlive solve()", x.wished(), 2);
        x.clear();
        check.due("wished() after clear()", x.wished(), WeakOrderJudge.NOT_SOLVED);
        x.solve();
        check.due("wished() of no event", x.wished(), 1);
        x.wantMemory(0, 1);
        check.due("wished() of no event, with a wish", x.wished(), 0);
    }

    private static void allWishesThatThereCanBe() {
        WeakOrderJudge x = new WeakOrderJudge(2, 3);
        for (int event = 0; event < 6; event++) {
            x.add(event / 3, event % 3, 1, 0);
        }
        check.due("solve()", x.solve(), 8);
        int[] left = {4, 2, 1, 1, 1, 1};
        for (int event = 0; event < 6; event++) {
            x.wantRead(event, event / 3);
            check.due("wished() with wishes for events 0 to " + event, x.wished(), left[event]);
        }
        for (int address = 0; address < 3; address++) {
            x.wantMemory(address, 2);
            check.due("wished() with wishes for addresses 0 to " + address, x.wished(), 1);
        }
        x.wantMemory(2, 1);
        check.due("wished() when the last one fails", x.wished(), 0);
        x.wantMemory(2, 2);
        x.wantRead(5, 0);
        check.due("wished() when that for the last event fails", x.wished(), 0);
    }
}
