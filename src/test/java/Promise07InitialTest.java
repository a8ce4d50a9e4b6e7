/** Promise 7: initial. */
public final class Promise07InitialTest {
    private static final Check check = new Check();

    public static void main(String[] args) {
        check.test("BAD_ADDRESS", Promise07InitialTest::badAddress);
        check.test("no value is refused, and none hides a refusal", Promise07InitialTest::anyValue);
        check.test("a refused call changes nothing", Promise07InitialTest::changesNothing);
        check.test("a call that is not refused makes the object not solved", Promise07InitialTest::notSolved);
        check.test("sets the initial value to value & 15", Promise07InitialTest::cutValues);
        check.test("sets that of the one address", Promise07InitialTest::oneAddress);
        check.test("the events may be there before it", Promise07InitialTest::afterTheEvents);
        check.end();
    }

    private static void due(WeakOrderJudge x, int address, int value, int due) {
        check.due("initial(" + address + ", " + value + ")", x.initial(address, value), due);
    }

    private static void badAddress() {
        for (int addresses = 1; addresses <= 3; addresses++) {
            for (int address : Edges.inside(0, addresses - 1)) {
                due(new WeakOrderJudge(1, addresses), address, 5, 0);
            }
            for (int address : Edges.outside(0, addresses - 1)) {
                due(new WeakOrderJudge(1, addresses), address, 5, WeakOrderJudge.BAD_ADDRESS);
            }
        }
    }

    private static void anyValue() {
        for (int value : Edges.outside(0, 15)) {
            due(new WeakOrderJudge(1, 2), 1, value, 0);
            due(new WeakOrderJudge(1, 2), 2, value, WeakOrderJudge.BAD_ADDRESS);
            due(new WeakOrderJudge(1, 2), -1, value, WeakOrderJudge.BAD_ADDRESS);
        }
    }

    private static void changesNothing() {
        for (Programs program : Programs.ALL) {
            for (int address : new int[] {-1, program.addresses()}) {
                new Twins(check).changesNothing("initial(" + address + ", 11)", program,
                    x -> x.initial(address, 11), WeakOrderJudge.BAD_ADDRESS);
            }
        }
    }

    private static void notSolved() {
        WeakOrderJudge x = new WeakOrderJudge(1, 2);
        for (int address = 0; address < 2; address++) {
            x.solve();
            check.due("wished() before", x.wished(), 1);
            due(x, address, 0, 0);
            check.due("wished(), be it the value that was there", x.wished(), WeakOrderJudge.NOT_SOLVED);
            x.solve();
            due(x, address, 4, 0);
            check.due("wished(), with another value", x.wished(), WeakOrderJudge.NOT_SOLVED);
        }
    }

    private static void cutValues() {
        for (int value = -33; value <= 33; value++) {
            starts(value, Math.floorMod(value, 16));
        }
        starts(Integer.MIN_VALUE, 0);
        starts(Integer.MIN_VALUE + 1, 1);
        starts(Integer.MAX_VALUE - 1, 14);
        starts(Integer.MAX_VALUE, 15);
    }

    private static void starts(int value, int due) {
        WeakOrderJudge x = new WeakOrderJudge(1, 2);
        x.load(0, 1, 0);
        due(x, 1, value, 0);
        check.due("solve()", x.solve(), 1);
        check.due("initial(1, " + value + "): readIn(0, 0)", x.readIn(0, 0), due);
        check.due("initial(1, " + value + "): memoryIn(0, 1)", x.memoryIn(0, 1), due);
        check.due("initial(1, " + value + "): memoryIn(0, 0)", x.memoryIn(0, 0), 0);
    }

    private static void oneAddress() {
        for (int set = 0; set < 3; set++) {
            WeakOrderJudge x = new WeakOrderJudge(1, 3);
            due(x, set, 13, 0);
            due(x, set, 15, 0);
            x.solve();
            for (int address = 0; address < 3; address++) {
                check.due("memoryIn(0, " + address + ")", x.memoryIn(0, address), address == set ? 15 : 0);
            }
        }
    }

    private static void afterTheEvents() {
        WeakOrderJudge x = new WeakOrderJudge(1, 1);
        x.load(0, 0, 0);
        x.solve();
        due(x, 0, 6, 0);
        check.due("readIn(0, 0) before solve()", x.readIn(0, 0), WeakOrderJudge.NOT_SOLVED);
        x.solve();
        check.due("readIn(0, 0)", x.readIn(0, 0), 6);
    }
}
