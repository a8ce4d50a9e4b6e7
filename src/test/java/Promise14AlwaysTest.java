/** Promise 14: always. The rules one by one are in OrderRulesTest. */
public final class Promise14AlwaysTest {
    private static final Check check = new Check();

    public static void main(String[] args) {
        new EventPairs(check, "always", WeakOrderJudge::always).tests();
        check.test("0 if a = b", Promise14AlwaysTest::withItself);
        check.test("it need not be solved", Promise14AlwaysTest::neverNotSolved);
        check.test("1 if a comes before b in every run, else 0", Promise14AlwaysTest::oneWay);
        check.test("in every run: also by two or more rules in a row", Promise14AlwaysTest::chains);
        check.test("in every run: by two rules in a row, wherever the three stand", Promise14AlwaysTest::everyPlaceOfAChain);
        check.test("of the program as it is now", Promise14AlwaysTest::asItIsNow);
        check.test("neither a refused call nor another changes anything", Promise14AlwaysTest::changesNothing);
        check.end();
    }

    private static void withItself() {
        for (int events = 1; events <= 6; events++) {
            WeakOrderJudge x = new WeakOrderJudge(1, 1);
            for (int event = 0; event < events; event++) {
                x.add(0, 0, 1, 3);
            }
            for (int event = 0; event < events; event++) {
                check.due("always(" + event + ", " + event + ")", x.always(event, event), 0);
            }
        }
    }

    private static void neverNotSolved() {
        for (Programs program : Programs.ALL) {
            WeakOrderJudge unsolved = program.unsolved();
            WeakOrderJudge solved = program.solved();
            for (int a = -1; a <= 6; a++) {
                for (int b = -1; b <= 6; b++) {
                    boolean events = Math.min(a, b) >= 0 && Math.max(a, b) < program.events();
                    int answer = unsolved.always(a, b);
                    check.holds("always(" + a + ", " + b + ") of " + program.name() + ", unsolved: " + answer,
                        events ? answer == 0 || answer == 1 : answer == WeakOrderJudge.BAD_EVENT);
                    check.due("always(" + a + ", " + b + ") of " + program.name() + ", solved", solved.always(a, b), answer);
                }
            }
        }
    }

    // Six events of one thread at one address, and six of which no two are bound.
    private static void oneWay() {
        WeakOrderJudge bound = new WeakOrderJudge(1, 1);
        WeakOrderJudge loose = new WeakOrderJudge(2, 3);
        for (int event = 0; event < 6; event++) {
            bound.load(0, 0, 0);
            loose.load(event % 2, event / 2, 0);
        }
        for (int a = 0; a < 6; a++) {
            for (int b = 0; b < 6; b++) {
                check.due("bound, always(" + a + ", " + b + ")", bound.always(a, b), a < b ? 1 : 0);
                check.due("loose, always(" + a + ", " + b + ")", loose.always(a, b), 0);
            }
        }
    }

    private static void changesNothing() {
        Twins twins = new Twins(check);
        for (int bad : new int[] {-1, 4}) {
            twins.unsolvedStays("always(0, " + bad + ")", Programs.SOME, x -> x.always(0, bad), WeakOrderJudge.BAD_EVENT);
        }
        twins.changesNothing("always(0, 1)", Programs.SOME, x -> x.always(0, 1), 1);
        twins.changesNothing("always(3, 2)", Programs.SOME, x -> x.always(3, 2), 0);
        twins.changesNothing("always(0, 2)", Programs.FULL, x -> x.always(0, 2), 1);
        twins.changesNothing("always(5, 0)", Programs.FULL, x -> x.always(5, 0), 0);
    }

    // Bound by no single rule, but by two or more in a row.
    private static void chains() {
        WeakOrderJudge x = new WeakOrderJudge(1, 3);
        x.load(0, 0, 0);
        x.load(0, 1, 0);
        x.depend(1, 0, WeakOrderJudge.ADDRESS);
        x.load(0, 2, 0);
        x.depend(2, 1, WeakOrderJudge.ADDRESS);
        check.due("always(0, 2): two steps", x.always(0, 2), 1);
        x.load(0, 0, 0);
        x.depend(3, 2, WeakOrderJudge.ADDRESS);
        check.due("always(1, 3): two steps", x.always(1, 3), 1);
        x.load(0, 1, 0);
        x.depend(4, 3, WeakOrderJudge.ADDRESS);
        check.due("always(2, 4): two steps", x.always(2, 4), 1);
        check.due("always(4, 2)", x.always(4, 2), 0);
        x.load(0, 2, 0);
        check.due("always(0, 5): by 2", x.always(0, 5), 1);
        check.due("always(3, 5)", x.always(3, 5), 0);
        check.due("always(4, 5)", x.always(4, 5), 0);
    }

    private static void everyPlaceOfAChain() {
        for (int addresses = 2; addresses <= 3; addresses++) {
            for (int first = 0; first <= 3; first++) {
                WeakOrderJudge x = new WeakOrderJudge(2, addresses);
                for (int event = 0; event < first; event++) {
                    x.load(1, 0, 0);
                }
                x.load(0, 0, 0);
                x.store(0, 1, 1, 0);
                x.load(0, 1, 0);
                String pair = "always(" + first + ", " + (first + 2) + ") of " + addresses + " addresses";
                check.due(pair + " before depend", x.always(first, first + 2), 0);
                x.depend(first + 1, first, WeakOrderJudge.DATA);
                check.due(pair, x.always(first, first + 2), 1);
                check.due("the other way", x.always(first + 2, first), 0);
            }
        }
    }

    private static void asItIsNow() {
        WeakOrderJudge x = new WeakOrderJudge(1, 2);
        x.load(0, 0, 0);
        x.store(0, 1, 1, 0);
        x.solve();
        check.due("always(0, 1)", x.always(0, 1), 0);
        check.due("always leaves it solved", x.wished(), 1);
        x.depend(1, 0, WeakOrderJudge.CONTROL);
        check.due("always(0, 1) after depend, unsolved", x.always(0, 1), 1);
        check.due("always does not solve", x.wished(), WeakOrderJudge.NOT_SOLVED);
        x.clear();
        x.load(0, 0, 0);
        x.store(0, 1, 1, 0);
        check.due("always(0, 1) after clear()", x.always(0, 1), 0);
    }
}
