/** Promise 17: wantMemory. */
public final class Promise17WantMemoryTest {
    private static final Check check = new Check();

    public static void main(String[] args) {
        new WishCalls(check, "wantMemory", 3, WeakOrderJudge::wantMemory, Promise17WantMemoryTest::threeAddressesWith).tests();
        check.test("BAD_ADDRESS", Promise17WantMemoryTest::badAddress);
        check.test("a value below 0 is no reason to skip the refusal", Promise17WantMemoryTest::anyValue);
        check.test("a refused call changes nothing", Promise17WantMemoryTest::changesNothing);
        check.test("in place of an earlier wish for that address", Promise17WantMemoryTest::replaces);
        check.test("a wish outlives changes of the program", Promise17WantMemoryTest::outlives);
        check.end();
    }

    private static void due(WeakOrderJudge x, int address, int value, int due) {
        check.due("wantMemory(" + address + ", " + value + ")", x.wantMemory(address, value), due);
    }

    private static void badAddress() {
        for (int addresses = 1; addresses <= 3; addresses++) {
            for (int address = 0; address < addresses; address++) {
                due(new WeakOrderJudge(1, addresses), address, 0, 0);
            }
            for (int address : Edges.outside(0, addresses - 1)) {
                due(new WeakOrderJudge(1, addresses), address, 0, WeakOrderJudge.BAD_ADDRESS);
            }
        }
    }

    private static void anyValue() {
        for (int value : Edges.outside(0, 15)) {
            due(new WeakOrderJudge(1, 2), -1, value, WeakOrderJudge.BAD_ADDRESS);
            due(new WeakOrderJudge(1, 2), 2, value, WeakOrderJudge.BAD_ADDRESS);
            due(new WeakOrderJudge(1, 2), 1, value, 0);
        }
    }

    private static void changesNothing() {
        for (int value : new int[] {0, 12, -1}) {
            for (Programs program : Programs.ALL) {
                for (int address : new int[] {-1, program.addresses()}) {
                    new Twins(check).changesNothing("wantMemory(" + address + ", " + value + ")", program,
                        x -> x.wantMemory(address, value), WeakOrderJudge.BAD_ADDRESS);
                }
            }
        }
    }

    private static WeakOrderJudge threeAddressesWith(int value) {
        WeakOrderJudge x = new WeakOrderJudge(1, 3);
        for (int address = 0; address < 3; address++) {
            x.initial(address, value);
        }
        return x;
    }

    private static void holdsIn(WeakOrderJudge x, int address, int value, int outcomes) {
        due(x, address, value, 0);
        check.due("wished() after wantMemory(" + address + ", " + value + ")", x.wished(), outcomes);
    }

    private static void replaces() {
        WeakOrderJudge x = new WeakOrderJudge(2, 2);
        x.store(0, 0, 15, 0);
        x.store(1, 0, 2, 0);
        x.solve();
        holdsIn(x, 0, 2, 1);
        holdsIn(x, 0, 15, 1);
        holdsIn(x, 0, 0, 0);
        holdsIn(x, 0, 18, 1);
        holdsIn(x, 0, 31, 1);
        holdsIn(x, 1, 0, 1);
        holdsIn(x, 1, 1, 0);
        holdsIn(x, 1, -1, 1);
        holdsIn(x, 0, -1, 2);
        holdsIn(x, 1, 16, 2);
    }

    private static void outlives() {
        WeakOrderJudge x = new WeakOrderJudge(1, 3);
        due(x, 2, 3, 0);
        x.solve();
        check.due("wished()", x.wished(), 0);
        x.initial(2, 3);
        x.solve();
        check.due("wished() with another initial value", x.wished(), 1);
        x.add(0, 2, 1, 0);
        x.solve();
        check.due("wished() with an event", x.wished(), 0);
    }
}
