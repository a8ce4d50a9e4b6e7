/** Promise 10: events. */
public final class Promise10EventsTest {
    private static final Check check = new Check();

    public static void main(String[] args) {
        WeakOrderJudge x = new WeakOrderJudge(2, 2);
        check.due("events() of a new object", x.events(), 0);
        x.load(0, 0, 0);
        check.due("events() after a load", x.events(), 1);
        x.store(1, 1, 1, 1);
        check.due("events() after a store", x.events(), 2);
        x.add(1, 0, 1, 3);
        check.due("events() after an addition", x.events(), 3);
        x.fence(0, 1);
        x.depend(2, 1, 1);
        x.initial(0, 1);
        x.wantRead(0, 1);
        x.wantMemory(0, 1);
        x.solve();
        check.due("events() after calls that add none", x.events(), 3);
        x.load(2, 0, 0);
        x.store(0, 2, 0, 0);
        x.add(0, 0, 0, 4);
        check.due("events() after refused ones", x.events(), 3);
        check.holds("events() leaves it solved", x.wished() >= 0);
        x.load(0, 0, 0);
        x.load(0, 0, 0);
        x.load(0, 0, 0);
        check.due("events() when full", x.events(), 6);
        x.load(0, 0, 0);
        check.due("events() after one too many", x.events(), 6);
        x.clear();
        check.due("events() after clear()", x.events(), 0);
        check.end();
    }
}
