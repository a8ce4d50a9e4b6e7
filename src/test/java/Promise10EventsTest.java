/** Promise 10: events. */
public final class Promise10EventsTest {
    private static final Check check = new Check();

    public static void main(String[] args) {
        check.test("the number of events: from 0 to 6", Promise10EventsTest::grows);
        check.test("only events count", Promise10EventsTest::nothingElseCounts);
        check.test("a refused event does not count", Promise10EventsTest::refusedOnes);
        check.test("0 after clear()", Promise10EventsTest::cleared);
        check.test("to ask changes nothing", Promise10EventsTest::changesNothing);
        check.end();
    }

    private static void grows() {
        WeakOrderJudge x = new WeakOrderJudge(2, 2);
        check.due("events() of a new object", x.events(), 0);
        x.load(0, 0, 0);
        check.due("events() after a load", x.events(), 1);
        x.store(1, 1, 1, 1);
        check.due("events() after a store", x.events(), 2);
        x.add(1, 0, 1, 3);
        check.due("events() after an addition", x.events(), 3);
        for (int events = 4; events <= 6; events++) {
            x.load(0, 0, 0);
            check.due("events() after more", x.events(), events);
        }
    }

    private static void nothingElseCounts() {
        WeakOrderJudge x = new WeakOrderJudge(2, 2);
        x.load(0, 0, 0);
        x.store(0, 1, 0, 0);
        x.fence(0, 1);
        x.depend(1, 0, 1);
        x.initial(0, 1);
        x.wantRead(0, 1);
        x.wantMemory(0, 1);
        x.solve();
        check.due("events()", x.events(), 2);
    }

    private static void refusedOnes() {
        for (Programs program : Programs.ALL) {
            WeakOrderJudge x = program.unsolved();
            x.load(program.threads(), 0, 0);
            x.store(0, program.addresses(), 0, 0);
            x.add(0, 0, 0, 4);
            check.due("events() of " + program.name(), x.events(), program.events());
        }
        WeakOrderJudge full = Programs.FULL.unsolved();
        full.load(0, 0, 0);
        full.store(0, 0, 0, 0);
        full.add(0, 0, 0, 0);
        check.due("events() after one too many", full.events(), 6);
    }

    private static void cleared() {
        for (Programs program : Programs.ALL) {
            WeakOrderJudge x = program.solved();
            x.clear();
            check.due("events() of " + program.name() + ", cleared", x.events(), 0);
        }
    }

    private static void changesNothing() {
        for (Programs program : Programs.ALL) {
            new Twins(check).changesNothing("events()", program, WeakOrderJudge::events, program.events());
        }
    }
}
