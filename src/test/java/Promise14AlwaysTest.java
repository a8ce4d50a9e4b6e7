/** Promise 14: always. The rules one by one are in OrderRulesTest. */
public final class Promise14AlwaysTest {
    private static final Check check = new Check();

    public static void main(String[] args) {
        refusals();
        chains();
        asItIsNow();
        check.end();
    }

    private static void refusals() {
        WeakOrderJudge x = new WeakOrderJudge(2, 2);
        check.due("always(0, 0) without an event", x.always(0, 0), WeakOrderJudge.BAD_EVENT);
        x.load(0, 0, 1);
        x.load(0, 1, 0);
        check.due("always(-1, 0)", x.always(-1, 0), WeakOrderJudge.BAD_EVENT);
        check.due("always(0, -1)", x.always(0, -1), WeakOrderJudge.BAD_EVENT);
        check.due("always(2, 0)", x.always(2, 0), WeakOrderJudge.BAD_EVENT);
        check.due("always(0, 2)", x.always(0, 2), WeakOrderJudge.BAD_EVENT);
        check.due("always(2, 2)", x.always(2, 2), WeakOrderJudge.BAD_EVENT);
        check.due("always(0, MAX)", x.always(0, Integer.MAX_VALUE), WeakOrderJudge.BAD_EVENT);
        check.due("always(0, 0)", x.always(0, 0), 0);
        check.due("always(0, 1)", x.always(0, 1), 1);
        check.due("always(1, 0)", x.always(1, 0), 0);
    }

    // Bound by no single rule, but by two or more in a row.
    private static void chains() {
        WeakOrderJudge x = new WeakOrderJudge(1, 3);
        x.load(0, 0, 0);
        x.load(0, 1, 0);
        x.depend(1, 0, WeakOrderJudge.ADDRESS);
        x.load(0, 2, 0);
        x.depend(2, 1, WeakOrderJudge.ADDRESS);
        check.due("always(0, 2): two steps", x.always(0, 2), 1);
        x.load(0, 0, 0);
        x.depend(3, 2, WeakOrderJudge.ADDRESS);
        check.due("always(1, 3): two steps", x.always(1, 3), 1);
        x.load(0, 1, 0);
        x.depend(4, 3, WeakOrderJudge.ADDRESS);
        check.due("always(2, 4): two steps", x.always(2, 4), 1);
        check.due("always(4, 2)", x.always(4, 2), 0);
        x.load(0, 2, 0);
        check.due("always(0, 5): by 2", x.always(0, 5), 1);
        check.due("always(3, 5)", x.always(3, 5), 0);
        check.due("always(4, 5)", x.always(4, 5), 0);
    }

    private static void asItIsNow() {
        WeakOrderJudge x = new WeakOrderJudge(1, 2);
        x.load(0, 0, 0);
        x.store(0, 1, 1, 0);
        x.solve();
        check.due("always(0, 1)", x.always(0, 1), 0);
        check.due("always leaves it solved", x.wished(), 1);
        x.depend(1, 0, WeakOrderJudge.CONTROL);
        check.due("always(0, 1) after depend, unsolved", x.always(0, 1), 1);
        check.due("always does not solve", x.wished(), WeakOrderJudge.NOT_SOLVED);
        x.clear();
        x.load(0, 0, 0);
        x.store(0, 1, 1, 0);
        check.due("always(0, 1) after clear()", x.always(0, 1), 0);
    }
}
