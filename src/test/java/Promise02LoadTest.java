/** Promise 2: load. */
public final class Promise02LoadTest {
    private static final Check check = new Check();

    public static void main(String[] args) {
        new EventCalls(check, "load", 1, WeakOrderJudge::load).tests();
        check.test("adds a load", Promise02LoadTest::reads);
        check.test("mark: 0 unmarked, 1 acquiring", Promise02LoadTest::marks);
        check.end();
    }

    private static void reads() {
        WeakOrderJudge x = new WeakOrderJudge(1, 2);
        x.initial(1, 11);
        x.load(0, 1, 0);
        x.load(0, 0, 0);
        check.due("solve()", x.solve(), 1);
        check.due("readIn(0, 0)", x.readIn(0, 0), 11);
        check.due("readIn(0, 1)", x.readIn(0, 1), 0);
        check.due("memoryIn(0, 1): a load writes nothing", x.memoryIn(0, 1), 11);
    }

    private static void marks() {
        WeakOrderJudge x = new WeakOrderJudge(1, 3);
        x.load(0, 0, 0);
        x.load(0, 1, 1);
        x.load(0, 2, 0);
        check.due("always(0, 1): unmarked", x.always(0, 1), 0);
        check.due("always(0, 2): unmarked", x.always(0, 2), 0);
        check.due("always(1, 2): acquiring", x.always(1, 2), 1);
    }
}
