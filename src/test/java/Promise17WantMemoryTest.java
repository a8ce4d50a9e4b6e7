/** Promise 17: wantMemory. */
public final class Promise17WantMemoryTest {
    private static final Check check = new Check();

    public static void main(String[] args) {
        check.test("BAD_ADDRESS", Promise17WantMemoryTest::badAddress);
        check.test("a value below 0 is no reason to skip the refusal", Promise17WantMemoryTest::anyValue);
        check.test("a refused call changes nothing", Promise17WantMemoryTest::changesNothing);
        check.test("wishes that the end value at the address is value & 15", Promise17WantMemoryTest::cutValues);
        check.test("a value below 0 removes the wish", Promise17WantMemoryTest::removes);
        check.test("a value below 0 removes the wish for that address alone", Promise17WantMemoryTest::removesThatAlone);
        check.test("to remove a wish that is not there is no refusal", Promise17WantMemoryTest::removesNothing);
        check.test("in place of an earlier wish for that address", Promise17WantMemoryTest::replaces);
        check.test("wishes never change whether it is solved", Promise17WantMemoryTest::solvedOrNot);
        check.test("a wish outlives changes of the program", Promise17WantMemoryTest::outlives);
        check.end();
    }

    private static void due(WeakOrderJudge x, int address, int value, int due) {
        check.due("wantMemory(" + address + ", " + value + ")", x.wantMemory(address, value), due);
    }

    private static void badAddress() {
        for (int addresses = 1; addresses <= 3; addresses++) {
            for (int address = 0; address < addresses; address++) {
                due(new WeakOrderJudge(1, addresses), address, 0, 0);
            }
            for (int address : Edges.outside(0, addresses - 1)) {
                due(new WeakOrderJudge(1, addresses), address, 0, WeakOrderJudge.BAD_ADDRESS);
            }
        }
    }

    private static void anyValue() {
        for (int value : Edges.outside(0, 15)) {
            due(new WeakOrderJudge(1, 2), -1, value, WeakOrderJudge.BAD_ADDRESS);
            due(new WeakOrderJudge(1, 2), 2, value, WeakOrderJudge.BAD_ADDRESS);
            due(new WeakOrderJudge(1, 2), 1, value, 0);
        }
    }

    private static void changesNothing() {
        for (int value : new int[] {0, 12, -1}) {
            for (Programs program : Programs.ALL) {
                for (int address : new int[] {-1, program.addresses()}) {
                    new Twins(check).changesNothing("wantMemory(" + address + ", " + value + ")", program,
                        x -> x.wantMemory(address, value), WeakOrderJudge.BAD_ADDRESS);
                }
            }
        }
    }

    private static WeakOrderJudge endingWith(int value) {
        WeakOrderJudge x = new WeakOrderJudge(1, 2);
        x.initial(1, value);
        x.solve();
        return x;
    }

    private static void holdsIn(WeakOrderJudge x, int address, int value, int outcomes) {
        due(x, address, value, 0);
        check.due("wished() after wantMemory(" + address + ", " + value + ")", x.wished(), outcomes);
    }

    private static void cutValues() {
        for (int end = 0; end <= 15; end++) {
            for (int value = 0; value <= 33; value++) {
                holdsIn(endingWith(end), 1, value, value % 16 == end ? 1 : 0);
            }
        }
        holdsIn(endingWith(15), 1, Integer.MAX_VALUE, 1);
        holdsIn(endingWith(14), 1, Integer.MAX_VALUE, 0);
        holdsIn(endingWith(14), 1, Integer.MAX_VALUE - 1, 1);
    }

    // The wish that is there first never holds; a wish for value & 15 would take its place, and hold for one of them.
    private static void removes() {
        for (int value : new int[] {-1, -2, -15, -16, -17, Integer.MIN_VALUE, Integer.MIN_VALUE + 1}) {
            for (int end = 0; end <= 15; end++) {
                WeakOrderJudge x = endingWith(end);
                holdsIn(x, 1, end + 1, 0);
                holdsIn(x, 1, value, 1);
            }
        }
        holdsIn(endingWith(9), 1, 0, 0);
    }

    private static void removesThatAlone() {
        for (int removed = 0; removed < 3; removed++) {
            WeakOrderJudge x = new WeakOrderJudge(1, 3);
            x.solve();
            for (int address = 0; address < 3; address++) {
                due(x, address, address == removed ? 1 : 0, 0);
            }
            check.due("wished() with the wish that does not hold", x.wished(), 0);
            holdsIn(x, removed, -1, 1);
            for (int address = 0; address < 3; address++) {
                holdsIn(x, address, 1, 0);
                holdsIn(x, (address + 1) % 3, -1, 0);
                holdsIn(x, address, -1, 1);
            }
        }
    }

    private static void removesNothing() {
        WeakOrderJudge x = endingWith(4);
        holdsIn(x, 0, -1, 1);
        holdsIn(x, 1, -1, 1);
        check.due("solve()", x.solve(), 1);
        check.due("wished()", x.wished(), 1);
    }

    private static void replaces() {
        WeakOrderJudge x = new WeakOrderJudge(2, 2);
        x.store(0, 0, 15, 0);
        x.store(1, 0, 2, 0);
        x.solve();
        holdsIn(x, 0, 2, 1);
        holdsIn(x, 0, 15, 1);
        holdsIn(x, 0, 0, 0);
        holdsIn(x, 0, 18, 1);
        holdsIn(x, 0, 31, 1);
        holdsIn(x, 1, 0, 1);
        holdsIn(x, 1, 1, 0);
        holdsIn(x, 1, -1, 1);
        holdsIn(x, 0, -1, 2);
        holdsIn(x, 1, 16, 2);
    }

    private static void solvedOrNot() {
        for (int value : new int[] {5, 8, 16, -1}) {
            WeakOrderJudge x = Programs.SOME.unsolved();
            due(x, 0, value, 0);
            check.due("wished() unsolved", x.wished(), WeakOrderJudge.NOT_SOLVED);
            x.solve();
            due(x, 1, value, 0);
            check.holds("it stays solved", x.wished() >= 0);
        }
    }

    private static void outlives() {
        WeakOrderJudge x = new WeakOrderJudge(1, 3);
        due(x, 2, 3, 0);
        x.solve();
        check.due("wished()", x.wished(), 0);
        x.initial(2, 3);
        x.solve();
        check.due("wished() with another initial value", x.wished(), 1);
        x.add(0, 2, 1, 0);
        x.solve();
        check.due("wished() with an event", x.wished(), 0);
    }
}
