/** What load, store and add have in common: the refusals, their order, and the new event's number. */
final class EventCalls {
    interface Call {
        int make(WeakOrderJudge x, int thread, int address, int mark);
    }

    private final Check check;
    private final String name;
    private final int greatestMark;
    private final Call call;

    EventCalls(Check check, String name, int greatestMark, Call call) {
        this.check = check;
        this.name = name;
        this.greatestMark = greatestMark;
        this.call = call;
    }

    void tests() {
        check.test(name + ": BAD_THREAD if thread is not a thread", this::badThread);
        check.test(name + ": BAD_ADDRESS if address is not an address", this::badAddress);
        check.test(name + ": BAD_KIND if mark is not from 0 to " + greatestMark, this::badKind);
        check.test(name + ": NO_ROOM if there are 6 events", this::noRoom);
        check.test(name + ": answers the new event's number", this::newNumber);
        check.test(name + ": the refusals are tested in the order in which they are listed", this::order);
        check.test(name + ": a refused call changes nothing", this::changesNothing);
        check.test(name + ": a call that is not refused makes the object not solved", this::notSolved);
    }

    private String text(int thread, int address, int mark) {
        return name + " with thread " + thread + ", address " + address + ", mark " + mark;
    }

    private void due(WeakOrderJudge x, int thread, int address, int mark, int due) {
        check.due(text(thread, address, mark), call.make(x, thread, address, mark), due);
    }

    private void badThread() {
        for (int threads = 1; threads <= 4; threads++) {
            for (int thread : Edges.inside(0, threads - 1)) {
                due(new WeakOrderJudge(threads, 2), thread, 1, 0, 0);
            }
            for (int thread : Edges.outside(0, threads - 1)) {
                due(new WeakOrderJudge(threads, 2), thread, 1, 0, WeakOrderJudge.BAD_THREAD);
            }
        }
    }

    private void badAddress() {
        for (int addresses = 1; addresses <= 3; addresses++) {
            for (int address : Edges.inside(0, addresses - 1)) {
                due(new WeakOrderJudge(2, addresses), 1, address, 0, 0);
            }
            for (int address : Edges.outside(0, addresses - 1)) {
                due(new WeakOrderJudge(2, addresses), 1, address, 0, WeakOrderJudge.BAD_ADDRESS);
            }
        }
    }

    private void badKind() {
        for (int mark = 0; mark <= greatestMark; mark++) {
            due(new WeakOrderJudge(2, 2), 1, 1, mark, 0);
        }
        for (int mark : Edges.outside(0, greatestMark)) {
            due(new WeakOrderJudge(2, 2), 1, 1, mark, WeakOrderJudge.BAD_KIND);
        }
    }

    private static void fill(WeakOrderJudge x, int events) {
        for (int event = 0; event < events; event++) {
            int sort = event % 3;
            if (sort == 0) {
                x.load(event % 2, 0, 0);
            } else if (sort == 1) {
                x.store(event % 2, 1, event, 0);
            } else {
                x.add(event % 2, 1, event, 0);
            }
        }
    }

    private void noRoom() {
        for (int events = 0; events <= 6; events++) {
            WeakOrderJudge x = new WeakOrderJudge(2, 2);
            fill(x, events);
            for (int fence = 0; fence < 8; fence++) {
                x.fence(0, WeakOrderJudge.FULL);
            }
            due(x, 1, 1, greatestMark, events < 6 ? events : WeakOrderJudge.NO_ROOM);
            check.due("events() then", x.events(), events < 6 ? events + 1 : 6);
        }
    }

    private void newNumber() {
        WeakOrderJudge x = new WeakOrderJudge(2, 2);
        for (int round = 0; round < 2; round++) {
            for (int event = 0; event < 6; event++) {
                due(x, event % 2, event / 3, event % (greatestMark + 1), event);
                check.due("events() then", x.events(), event + 1);
            }
            due(x, 0, 0, 0, WeakOrderJudge.NO_ROOM);
            due(x, 1, 1, greatestMark, WeakOrderJudge.NO_ROOM);
            x.clear();
        }
    }

    /** Each set of reasons to refuse, those that are wrong being too small or too large. */
    private void order() {
        for (int reasons = 1; reasons < 16; reasons++) {
            for (int large = 0; large < 8; large++) {
                WeakOrderJudge x = new WeakOrderJudge(2, 2);
                fill(x, (reasons & 8) != 0 ? 6 : 5);
                int thread = argument(reasons, large, 1, 1);
                int address = argument(reasons, large, 2, 1);
                int mark = argument(reasons, large, 4, greatestMark);
                due(x, thread, address, mark, firstOf(reasons));
            }
        }
    }

    private static int argument(int reasons, int large, int bit, int most) {
        if ((reasons & bit) == 0) {
            return most;
        }
        return (large & bit) != 0 ? most + 1 : -1;
    }

    private static int firstOf(int reasons) {
        if ((reasons & 1) != 0) {
            return WeakOrderJudge.BAD_THREAD;
        }
        if ((reasons & 2) != 0) {
            return WeakOrderJudge.BAD_ADDRESS;
        }
        return (reasons & 4) != 0 ? WeakOrderJudge.BAD_KIND : WeakOrderJudge.NO_ROOM;
    }

    private void changesNothing() {
        for (Programs program : Programs.ALL) {
            for (int thread : new int[] {-1, program.threads()}) {
                refused(program, thread, 0, 0, WeakOrderJudge.BAD_THREAD);
            }
            for (int address : new int[] {-1, program.addresses()}) {
                refused(program, 0, address, 0, WeakOrderJudge.BAD_ADDRESS);
            }
            for (int mark : new int[] {-1, greatestMark + 1}) {
                refused(program, 0, 0, mark, WeakOrderJudge.BAD_KIND);
            }
        }
        refused(Programs.FULL, 0, 0, 0, WeakOrderJudge.NO_ROOM);
        refused(Programs.FULL, 3, 2, greatestMark, WeakOrderJudge.NO_ROOM);
        refused(Programs.LOOSE, 0, 0, 0, WeakOrderJudge.NO_ROOM);
    }

    private void refused(Programs program, int thread, int address, int mark, int refusal) {
        Twins twins = new Twins(check);
        twins.changesNothing(text(thread, address, mark), program, x -> call.make(x, thread, address, mark), refusal);
    }

    private void notSolved() {
        for (int events = 0; events < 6; events++) {
            WeakOrderJudge x = new WeakOrderJudge(2, 2);
            fill(x, events);
            x.solve();
            check.holds("it is solved before", x.wished() >= 0);
            due(x, 0, 0, 0, events);
            check.due("wished() then", x.wished(), WeakOrderJudge.NOT_SOLVED);
        }
    }
}
