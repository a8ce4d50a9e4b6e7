/** Promise 3: store. */
public final class Promise03StoreTest {
    private static final Check check = new Check();

    public static void main(String[] args) {
        // No value is a reason to refuse, and none hides one.
        for (int value : new int[] {12, -1, 16, Integer.MIN_VALUE, Integer.MAX_VALUE}) {
            new EventCalls(check, "store of " + value, 1,
                (x, thread, address, mark) -> x.store(thread, address, value, mark)).tests();
        }
        check.test("adds a store with the constant value & 15", Promise03StoreTest::constants);
        check.test("mark: 0 unmarked, 1 releasing", Promise03StoreTest::marks);
        check.end();
    }

    private static void constants() {
        for (int value = -33; value <= 33; value++) {
            writes(value, Math.floorMod(value, 16));
        }
        writes(255, 15);
        writes(256, 0);
        writes(-256, 0);
        writes(Integer.MAX_VALUE, 15);
        writes(Integer.MAX_VALUE - 1, 14);
        writes(Integer.MIN_VALUE, 0);
        writes(Integer.MIN_VALUE + 1, 1);
    }

    private static void writes(int value, int due) {
        WeakOrderJudge x = new WeakOrderJudge(1, 2);
        x.initial(1, 3);
        x.initial(0, 4);
        check.due("store(0, 1, " + value + ", 0)", x.store(0, 1, value, 0), 0);
        check.due("solve()", x.solve(), 1);
        check.due("the end value of store(0, 1, " + value + ", 0)", x.memoryIn(0, 1), due);
        check.due("the other address", x.memoryIn(0, 0), 4);
        check.due("readIn(0, 0)", x.readIn(0, 0), WeakOrderJudge.NOT_READING);
    }

    private static void marks() {
        WeakOrderJudge x = new WeakOrderJudge(1, 3);
        x.store(0, 0, 1, 0);
        x.store(0, 1, 1, 1);
        x.store(0, 2, 1, 0);
        check.due("always(0, 1): releasing", x.always(0, 1), 1);
        check.due("always(1, 2): unmarked", x.always(1, 2), 0);
        check.due("always(0, 2): unmarked", x.always(0, 2), 0);
    }
}
