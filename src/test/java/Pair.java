/** An object and a Model with the same history: each answer of the one must be that of the other. */
final class Pair {
    static final int MOST_CALLS = 512;

    private final Check check;
    private final String made;
    private final WeakOrderJudge x;
    private final Model model;
    private int calls = 0;

    Pair(Check check, String name, int threads, int addresses) {
        this.check = check;
        made = name + ", new WeakOrderJudge(" + threads + ", " + addresses + ")";
        x = new WeakOrderJudge(threads, addresses);
        model = new Model(threads, addresses);
    }

    /** Makes the call on both, and tells the answer that is due. */
    int make(Call call, int... arguments) {
        calls++;
        int due = call.on(model, arguments);
        int got = call.on(x, arguments);
        // There are millions of calls: the text is made for those alone that need it.
        if (got != due) {
            check.due(made + ", call " + calls + ": " + call.text(arguments), got, due);
        }
        return due;
    }

    int callsLeft() {
        return MOST_CALLS - calls;
    }

    int events() {
        return model.events();
    }

    /** All that may be asked of two events, and of the outcomes as many as the calls left over allow. */
    void lookAtAll(int callsToLeave) {
        make(Call.EVENTS);
        int wished = make(Call.WISHED);
        for (int a = 0; a < events(); a++) {
            for (int b = 0; b < events(); b++) {
                make(Call.ALWAYS, a, b);
                make(Call.LOST, a, b);
            }
        }
        if (wished == WeakOrderJudge.NOT_SOLVED) {
            return;
        }
        boolean more = true;
        for (int outcome = 0; more && callsLeft() > callsToLeave + 15; outcome++) {
            for (int place = 0; place < 6; place++) {
                make(Call.READ_IN, outcome, place);
                make(Call.RUN_IN, outcome, place);
            }
            for (int address = 0; address < 3; address++) {
                more = make(Call.MEMORY_IN, outcome, address) != WeakOrderJudge.NO_OUTCOME;
            }
        }
    }
}
