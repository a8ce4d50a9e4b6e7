/** What always and lost have in common: they ask about two events. */
final class EventPairs {
    interface Call {
        int make(WeakOrderJudge x, int a, int b);
    }

    private final Check check;
    private final String name;
    private final Call call;

    EventPairs(Check check, String name, Call call) {
        this.check = check;
        this.name = name;
        this.call = call;
    }

    void tests() {
        check.test(name + ": BAD_EVENT if a is not the number of an event", () -> badEvent(true));
        check.test(name + ": BAD_EVENT if b is not the number of an event", () -> badEvent(false));
        check.test(name + ": BAD_EVENT if neither is the number of an event", this::bothBad);
        check.test(name + ": a call refused with BAD_EVENT changes nothing", this::changesNothing);
    }

    private static WeakOrderJudge solvedLoads(int events) {
        WeakOrderJudge x = new WeakOrderJudge(1, 1);
        for (int event = 0; event < events; event++) {
            x.load(0, 0, 0);
        }
        x.solve();
        return x;
    }

    private void due(WeakOrderJudge x, int a, int b, int due) {
        check.due(name + "(" + a + ", " + b + ")", call.make(x, a, b), due);
    }

    private void badEvent(boolean first) {
        for (int events = 1; events <= 6; events++) {
            WeakOrderJudge x = solvedLoads(events);
            for (int good = 0; good < events; good++) {
                for (int bad : Edges.outside(0, events - 1)) {
                    due(x, first ? bad : good, first ? good : bad, WeakOrderJudge.BAD_EVENT);
                }
                int other = good == 0 ? events - 1 : 0;
                if (other != good) {
                    int answer = call.make(x, first ? good : other, first ? other : good);
                    check.holds(name + " of two events is not refused: " + answer, answer >= 0);
                }
            }
        }
    }

    private void bothBad() {
        for (int events = 0; events <= 6; events++) {
            WeakOrderJudge x = solvedLoads(events);
            for (int a : Edges.outside(0, events - 1)) {
                for (int b : new int[] {-1, events, a}) {
                    due(x, a, b, WeakOrderJudge.BAD_EVENT);
                }
            }
        }
    }

    private void changesNothing() {
        Twins twins = new Twins(check);
        for (Programs program : Programs.ALL) {
            for (int bad : new int[] {-1, program.events()}) {
                twins.solvedStays(name + "(" + bad + ", 0)", program, x -> call.make(x, bad, 0), WeakOrderJudge.BAD_EVENT);
                twins.solvedStays(name + "(0, " + bad + ")", program, x -> call.make(x, 0, bad), WeakOrderJudge.BAD_EVENT);
            }
        }
    }
}
