/** What readIn, memoryIn and runIn have in common: an outcome, and what is looked at in it. */
final class OutcomeCalls {
    interface Call {
        int make(WeakOrderJudge x, int outcome, int what);
    }

    private final Check check;
    private final String name;
    private final Call call;
    private final int refusal;

    /** The refusal: BAD_ADDRESS, BAD_EVENT or BAD_PLACE. */
    OutcomeCalls(Check check, String name, int refusal, Call call) {
        this.check = check;
        this.name = name;
        this.refusal = refusal;
        this.call = call;
    }

    void tests() {
        new SolvedOrNot(check, name, x -> call.make(x, 0, 0)).tests();
        check.test(name + ": NO_OUTCOME if outcome is not the number of one", this::noOutcome);
        check.test(name + ": " + refusal + " at both ends of the range", this::badSecond);
        check.test(name + ": the refusals are tested in the order in which they are listed", this::order);
        check.test(name + ": neither a refused call nor another changes anything", this::changesNothing);
    }

    private void due(WeakOrderJudge x, int outcome, int what, int due) {
        check.due(name + "(" + outcome + ", " + what + ")", call.make(x, outcome, what), due);
    }

    private void accepts(WeakOrderJudge x, int outcome, int what) {
        int answer = call.make(x, outcome, what);
        check.holds(name + "(" + outcome + ", " + what + ") is not refused: " + answer, answer >= 0);
    }

    /** The number of the things that may be looked at. */
    private int countOf(Programs program) {
        return refusal == WeakOrderJudge.BAD_ADDRESS ? program.addresses() : program.events();
    }

    /** Additions of threads to one address: as many outcomes as orders, if no two sums are the same. */
    static WeakOrderJudge additions(int... threads) {
        int[] amounts = {1, 2, 3, 4, 5, 7};
        WeakOrderJudge x = new WeakOrderJudge(4, 1);
        for (int event = 0; event < threads.length; event++) {
            x.add(threads[event], 0, amounts[event], 0);
        }
        return x;
    }

    private void noOutcome() {
        outcomes(additions(0), 1);
        outcomes(additions(0, 1), 2);
        outcomes(additions(0, 1, 2), 6);
        outcomes(additions(0, 1, 2, 3), 24);
        outcomes(additions(0, 0, 1, 1, 2, 3), 180);
    }

    private void outcomes(WeakOrderJudge x, int count) {
        check.due("solve()", x.solve(), count);
        for (int outcome : Edges.inside(0, count - 1)) {
            accepts(x, outcome, 0);
        }
        for (int outcome : Edges.outside(0, count - 1)) {
            due(x, outcome, 0, WeakOrderJudge.NO_OUTCOME);
        }
    }

    private void badSecond() {
        for (int events = 0; events <= 6; events++) {
            for (int addresses = 1; addresses <= 3; addresses++) {
                WeakOrderJudge x = new WeakOrderJudge(1, addresses);
                for (int event = 0; event < events; event++) {
                    x.load(0, 0, 0);
                }
                x.solve();
                int count = refusal == WeakOrderJudge.BAD_ADDRESS ? addresses : events;
                for (int what = 0; what < count; what++) {
                    accepts(x, 0, what);
                }
                for (int what : Edges.outside(0, count - 1)) {
                    due(x, 0, what, refusal);
                }
            }
        }
    }

    private void order() {
        for (Programs program : Programs.ALL) {
            int outcomes = program.unsolved().solve();
            for (int outcome : new int[] {-1, outcomes}) {
                for (int what : new int[] {-1, countOf(program), 1}) {
                    due(program.unsolved(), outcome, what, WeakOrderJudge.NOT_SOLVED);
                    due(program.solved(), outcome, what, WeakOrderJudge.NO_OUTCOME);
                }
            }
            for (int what : new int[] {-1, countOf(program)}) {
                due(program.unsolved(), 0, what, WeakOrderJudge.NOT_SOLVED);
                due(program.solved(), 0, what, refusal);
                due(program.solved(), outcomes - 1, what, refusal);
            }
        }
    }

    private void changesNothing() {
        Twins twins = new Twins(check);
        for (Programs program : Programs.ALL) {
            int outcomes = program.unsolved().solve();
            twins.unsolvedStays(name + "(0, 0)", program, x -> call.make(x, 0, 0), WeakOrderJudge.NOT_SOLVED);
            for (int outcome : new int[] {-1, outcomes}) {
                twins.solvedStays(name + "(" + outcome + ", 0)", program,
                    x -> call.make(x, outcome, 0), WeakOrderJudge.NO_OUTCOME);
            }
            for (int what : new int[] {-1, countOf(program)}) {
                twins.solvedStays(name + "(0, " + what + ")", program, x -> call.make(x, 0, what), refusal);
            }
            int answer = call.make(program.solved(), 0, 0);
            twins.solvedStays(name + "(0, 0)", program, x -> call.make(x, 0, 0), answer);
        }
    }
}
