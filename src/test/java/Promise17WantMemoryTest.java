/** Promise 17: wantMemory. */
public final class Promise17WantMemoryTest {
    private static final Check check = new Check();

    public static void main(String[] args) {
        refusals();
        wishes();
        solvedOrNot();
        check.end();
    }

    private static void refusals() {
        WeakOrderJudge x = new WeakOrderJudge(1, 2);
        check.due("wantMemory(-1, 0)", x.wantMemory(-1, 0), WeakOrderJudge.BAD_ADDRESS);
        check.due("wantMemory(2, 0)", x.wantMemory(2, 0), WeakOrderJudge.BAD_ADDRESS);
        check.due("wantMemory(2, -1)", x.wantMemory(2, -1), WeakOrderJudge.BAD_ADDRESS);
        check.due("wantMemory(MAX, 1)", x.wantMemory(Integer.MAX_VALUE, 1), WeakOrderJudge.BAD_ADDRESS);
        x.solve();
        check.due("wished(): the refused ones wish nothing", x.wished(), 1);
    }

    private static void wishes() {
        WeakOrderJudge x = new WeakOrderJudge(2, 2);
        x.store(0, 0, 15, 0);
        x.store(1, 0, 2, 0);
        x.solve();
        expect(x, 0, 2, 1);
        expect(x, 0, 15, 1);
        expect(x, 0, 0, 0);
        expect(x, 0, 18, 1);
        expect(x, 0, Integer.MAX_VALUE, 1);
        expect(x, 1, 0, 1);
        expect(x, 1, 1, 0);
        expect(x, 1, -1, 1);
        expect(x, 0, -1, 2);
        expect(x, 0, Integer.MIN_VALUE, 2);
        expect(x, 1, 16, 2);
    }

    private static void expect(WeakOrderJudge x, int address, int value, int due) {
        check.due("wantMemory(" + address + ", " + value + ")", x.wantMemory(address, value), 0);
        check.due("wished() after wantMemory(" + address + ", " + value + ")", x.wished(), due);
    }

    private static void solvedOrNot() {
        WeakOrderJudge x = new WeakOrderJudge(1, 3);
        check.due("wantMemory(2, 3) unsolved", x.wantMemory(2, 3), 0);
        check.due("it does not solve", x.wished(), WeakOrderJudge.NOT_SOLVED);
        x.solve();
        check.due("the wish stands", x.wished(), 0);
        x.initial(2, 3);
        x.solve();
        check.due("the wish outlives a change", x.wished(), 1);
    }
}
