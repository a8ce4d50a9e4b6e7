/** Promise 4: add. */
public final class Promise04AddTest {
    private static final Check check = new Check();

    public static void main(String[] args) {
        // No amount is a reason to refuse, and none hides one.
        for (int amount : new int[] {12, -1, 16, Integer.MIN_VALUE, Integer.MAX_VALUE}) {
            new EventCalls(check, "add of " + amount, 3,
                (x, thread, address, mark) -> x.add(thread, address, amount, mark)).tests();
        }
        check.test("adds an addition with the constant amount & 15", Promise04AddTest::amounts);
        check.test("mark: 0 unmarked, 1 acquiring, 2 releasing, 3 acquiring and releasing", Promise04AddTest::marks);
        check.end();
    }

    private static void amounts() {
        for (int old = 0; old <= 15; old++) {
            for (int amount = -17; amount <= 33; amount++) {
                sums(old, amount, Math.floorMod(old + amount, 16));
            }
        }
        sums(0, Integer.MAX_VALUE, 15);
        sums(1, Integer.MAX_VALUE, 0);
        sums(15, Integer.MAX_VALUE, 14);
        sums(6, Integer.MIN_VALUE, 6);
        sums(15, Integer.MIN_VALUE, 15);
        sums(15, Integer.MIN_VALUE + 1, 0);
    }

    private static void sums(int old, int amount, int due) {
        String call = "add(0, 0, " + amount + ", 0) on " + old + ": ";
        WeakOrderJudge x = new WeakOrderJudge(1, 1);
        x.initial(0, old);
        check.due(call + "the number", x.add(0, 0, amount, 0), 0);
        check.due(call + "outcomes", x.solve(), 1);
        check.due(call + "reads the old value", x.readIn(0, 0), old);
        check.due(call + "writes the sum", x.memoryIn(0, 0), due);
    }

    private static void marks() {
        int[] before = {0, 0, 1, 1};
        int[] after = {0, 1, 0, 1};
        for (int mark = 0; mark < 4; mark++) {
            WeakOrderJudge x = new WeakOrderJudge(1, 3);
            x.load(0, 0, 0);
            x.add(0, 1, 1, mark);
            x.load(0, 2, 0);
            check.due("mark " + mark + ": always(0, 1)", x.always(0, 1), before[mark]);
            check.due("mark " + mark + ": always(1, 2)", x.always(1, 2), after[mark]);
            check.due("mark " + mark + ": always(0, 2)", x.always(0, 2), mark == 3 ? 1 : 0);
        }
    }
}
