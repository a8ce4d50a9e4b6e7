/** Promise 18: wished. */
public final class Promise18WishedTest {
    private static final Check check = new Check();

    public static void main(String[] args) {
        new SolvedOrNot(check, "wished", WeakOrderJudge::wished).tests();
        check.test("without a wish: all outcomes", Promise18WishedTest::noWish);
        check.test("the number of outcomes in which all wishes hold", Promise18WishedTest::someWishes);
        check.test("the empty program: only addresses may be wished for", Promise18WishedTest::noEvent);
        check.test("the full program: as many wishes as there can be", Promise18WishedTest::allWishesThatThereCanBe);
        check.test("a wish for an event and one for an address leave each other", Promise18WishedTest::bothKinds);
        check.test("180 outcomes", Promise18WishedTest::mostOutcomes);
        check.test("wishes outlive solve() and are gone with clear()", Promise18WishedTest::solveAndClear);
        check.test("neither a refused call nor another changes anything", Promise18WishedTest::changesNothing);
        check.end();
    }

    private static WeakOrderJudge storeBuffering() {
        WeakOrderJudge x = new WeakOrderJudge(2, 2);
        x.store(0, 0, 1, 0);
        x.load(0, 1, 0);
        x.store(1, 1, 1, 0);
        x.load(1, 0, 0);
        return x;
    }

    private static void noWish() {
        WeakOrderJudge x = storeBuffering();
        check.due("wished() unsolved", x.wished(), WeakOrderJudge.NOT_SOLVED);
        x.solve();
        check.due("wished()", x.wished(), 4);
    }

    private static void someWishes() {
        WeakOrderJudge x = storeBuffering();
        x.solve();
        x.wantRead(1, 0);
        check.due("wished() with one wish", x.wished(), 2);
        x.wantRead(3, 0);
        check.due("wished() with two wishes", x.wished(), 1);
        x.wantMemory(0, 1);
        x.wantMemory(1, 1);
        check.due("wished() with all wishes", x.wished(), 1);
        x.wantMemory(1, 0);
        check.due("wished() with one that never holds", x.wished(), 0);
        x.wantMemory(1, -1);
        x.wantRead(1, -1);
        check.due("wished() with less wishes", x.wished(), 2);
    }

    private static void noEvent() {
        for (int address = 0; address < 3; address++) {
            WeakOrderJudge x = new WeakOrderJudge(1, 3);
            x.solve();
            check.due("wished()", x.wished(), 1);
            x.wantMemory(address, 0);
            check.due("wished() with a wish that holds", x.wished(), 1);
            x.wantMemory(address, 1);
            check.due("wished() with a wish that does not", x.wished(), 0);
        }
    }

    private static void allWishesThatThereCanBe() {
        WeakOrderJudge x = new WeakOrderJudge(2, 3);
        for (int event = 0; event < 6; event++) {
            x.add(event / 3, event % 3, 1, 0);
        }
        check.due("solve()", x.solve(), 8);
        int[] left = {4, 2, 1, 1, 1, 1};
        for (int event = 0; event < 6; event++) {
            x.wantRead(event, event / 3);
            check.due("wished() with wishes for events 0 to " + event, x.wished(), left[event]);
        }
        for (int address = 0; address < 3; address++) {
            x.wantMemory(address, 2);
            check.due("wished() with wishes for addresses 0 to " + address, x.wished(), 1);
        }
        x.wantMemory(2, 1);
        check.due("wished() when the last one fails", x.wished(), 0);
        x.wantMemory(2, 2);
        x.wantRead(5, 0);
        check.due("wished() when that for the last event fails", x.wished(), 0);
    }

    // One wish does not hold; the other, set or removed after it, must not touch it.
    private static void bothKinds() {
        for (int event = 0; event < 6; event++) {
            for (int address = 0; address < 3; address++) {
                for (int value : new int[] {0, -1}) {
                    WeakOrderJudge x = new WeakOrderJudge(1, 3);
                    for (int load = 0; load < 6; load++) {
                        x.load(0, load % 3, 0);
                    }
                    x.solve();
                    x.wantMemory(address, 9);
                    x.wantRead(event, value);
                    check.due("wished() with a wish for address " + address, x.wished(), 0);
                    x.wantMemory(address, -1);
                    check.due("wished() without it", x.wished(), 1);
                    x.wantRead(event, 9);
                    x.wantMemory(address, value);
                    check.due("wished() with a wish for event " + event, x.wished(), 0);
                    x.wantRead(event, -1);
                    check.due("wished() without it", x.wished(), 1);
                }
            }
        }
    }

    private static void mostOutcomes() {
        WeakOrderJudge x = OutcomeCalls.additions(0, 0, 1, 1, 2, 3);
        x.solve();
        check.due("wished()", x.wished(), 180);
        x.wantMemory(0, 1 + 2 + 3 + 4 + 5 + 7);
        check.due("wished() with the sum", x.wished(), 180);
        x.wantMemory(0, 5);
        check.due("wished() with another sum", x.wished(), 0);
        x.wantMemory(0, -1);
        for (int event = 0; event < 6; event++) {
            x.wantRead(event, x.readIn(179, event));
        }
        check.due("wished() for the last outcome alone", x.wished(), 1);
        for (int event = 0; event < 6; event++) {
            x.wantRead(event, x.readIn(0, event));
        }
        check.due("wished() for the first outcome alone", x.wished(), 1);
    }

    private static void solveAndClear() {
        WeakOrderJudge x = storeBuffering();
        x.wantRead(3, 0);
        x.wantMemory(0, 1);
        x.solve();
        check.due("wished()", x.wished(), 2);
        x.fence(0, WeakOrderJudge.FULL);
        check.due("wished() after a change", x.wished(), WeakOrderJudge.NOT_SOLVED);
        x.solve();
        check.due("wished() after solve()", x.wished(), 2);
        x.clear();
        check.due("wished() after clear()", x.wished(), WeakOrderJudge.NOT_SOLVED);
        x.solve();
        check.due("wished() of no event", x.wished(), 1);
    }

    private static void changesNothing() {
        Twins twins = new Twins(check);
        for (Programs program : Programs.ALL) {
            twins.unsolvedStays("wished()", program, WeakOrderJudge::wished, WeakOrderJudge.NOT_SOLVED);
            twins.solvedStays("wished()", program, WeakOrderJudge::wished, 1);
        }
    }
}
