/** Promise 1: a new object. */
public final class Promise01NewObjectTest {
    private static final Check check = new Check();

    public static void main(String[] args) {
        check.test("threads: less than 1 becomes 1", () -> {
            counts(1, 2, 1, 2);
            counts(0, 2, 1, 2);
            counts(-1, 2, 1, 2);
            counts(Integer.MIN_VALUE, 2, 1, 2);
        });
        check.test("threads: more than 4 becomes 4", () -> {
            counts(4, 2, 4, 2);
            counts(5, 2, 4, 2);
            counts(6, 2, 4, 2);
            counts(Integer.MAX_VALUE, 2, 4, 2);
        });
        check.test("addresses: less than 1 becomes 1", () -> {
            counts(2, 1, 2, 1);
            counts(2, 0, 2, 1);
            counts(2, -1, 2, 1);
            counts(2, Integer.MIN_VALUE, 2, 1);
        });
        check.test("addresses: more than 3 becomes 3", () -> {
            counts(2, 3, 2, 3);
            counts(2, 4, 2, 3);
            counts(2, 5, 2, 3);
            counts(2, Integer.MAX_VALUE, 2, 3);
        });
        check.test("threads are named 0 .. threads-1, addresses 0 .. addresses-1", Promise01NewObjectTest::names);
        check.test("all initial values are 0", Promise01NewObjectTest::initialValues);
        check.test("no event", Promise01NewObjectTest::noEvent);
        check.test("no fence", Promise01NewObjectTest::noFence);
        check.test("no dependency", Promise01NewObjectTest::noDependency);
        check.test("no wish", Promise01NewObjectTest::noWish);
        check.test("not solved", Promise01NewObjectTest::notSolved);
        check.end();
    }

    private static void names() {
        for (int threads = 1; threads <= 4; threads++) {
            for (int addresses = 1; addresses <= 3; addresses++) {
                counts(threads, addresses, threads, addresses);
            }
        }
        counts(0, 4, 1, 3);
        counts(5, 0, 4, 1);
        counts(Integer.MIN_VALUE, Integer.MAX_VALUE, 1, 3);
        counts(Integer.MAX_VALUE, Integer.MIN_VALUE, 4, 1);
    }

    private static void counts(int threads, int addresses, int dueThreads, int dueAddresses) {
        String made = "new WeakOrderJudge(" + threads + ", " + addresses + "): ";
        WeakOrderJudge x = new WeakOrderJudge(threads, addresses);
        for (int thread = -1; thread <= 6; thread++) {
            boolean there = thread >= 0 && thread < dueThreads;
            check.due(made + "fence(" + thread + ", 9)", x.fence(thread, 9),
                there ? WeakOrderJudge.BAD_KIND : WeakOrderJudge.BAD_THREAD);
            check.due(made + "load(" + thread + ", 0, 9)", x.load(thread, 0, 9),
                there ? WeakOrderJudge.BAD_KIND : WeakOrderJudge.BAD_THREAD);
        }
        for (int address = -1; address <= 5; address++) {
            boolean there = address >= 0 && address < dueAddresses;
            check.due(made + "wantMemory(" + address + ", -1)", x.wantMemory(address, -1),
                there ? 0 : WeakOrderJudge.BAD_ADDRESS);
            check.due(made + "load(0, " + address + ", 9)", x.load(0, address, 9),
                there ? WeakOrderJudge.BAD_KIND : WeakOrderJudge.BAD_ADDRESS);
        }
    }

    private static void initialValues() {
        for (int addresses = 1; addresses <= 3; addresses++) {
            WeakOrderJudge x = new WeakOrderJudge(1, addresses);
            for (int address = 0; address < addresses; address++) {
                x.load(0, address, 0);
            }
            check.due("solve()", x.solve(), 1);
            for (int address = 0; address < addresses; address++) {
                check.due("readIn(0, " + address + ")", x.readIn(0, address), 0);
                check.due("memoryIn(0, " + address + ")", x.memoryIn(0, address), 0);
            }
        }
    }

    private static void noEvent() {
        WeakOrderJudge x = new WeakOrderJudge(4, 3);
        check.due("events()", x.events(), 0);
        check.due("always(0, 0)", x.always(0, 0), WeakOrderJudge.BAD_EVENT);
        check.due("wantRead(0, 0)", x.wantRead(0, 0), WeakOrderJudge.BAD_EVENT);
        check.due("the first event", x.load(0, 0, 0), 0);
    }

    private static void noFence() {
        WeakOrderJudge x = new WeakOrderJudge(1, 2);
        for (int fence = 0; fence < 8; fence++) {
            check.due("fence " + fence, x.fence(0, WeakOrderJudge.FULL), fence);
        }
        WeakOrderJudge other = new WeakOrderJudge(1, 2);
        other.store(0, 0, 1, 0);
        other.store(0, 1, 1, 0);
        check.due("always(0, 1)", other.always(0, 1), 0);
    }

    private static void noDependency() {
        WeakOrderJudge x = new WeakOrderJudge(1, 3);
        for (int event = 0; event < 6; event++) {
            x.add(0, event % 3, 0, 0);
        }
        for (int b = 0; b < 6; b++) {
            for (int a = 0; a < b; a++) {
                check.due("always(" + a + ", " + b + ")", x.always(a, b), b - a == 3 ? 1 : 0);
            }
        }
        for (int event = 1; event < 6; event++) {
            for (int kind = WeakOrderJudge.DATA; kind <= WeakOrderJudge.CONTROL; kind++) {
                check.due("depend(" + event + ", 0, " + kind + ")", x.depend(event, 0, kind), 0);
            }
        }
    }

    private static void noWish() {
        WeakOrderJudge x = new WeakOrderJudge(1, 3);
        for (int address = 0; address < 3; address++) {
            x.initial(address, 1 + address);
        }
        check.due("solve() without an event", x.solve(), 1);
        check.due("wished() without an event", x.wished(), 1);
        for (int event = 0; event < 6; event++) {
            x.load(0, event % 3, 0);
        }
        check.due("solve()", x.solve(), 1);
        check.due("wished()", x.wished(), 1);
    }

    private static void notSolved() {
        WeakOrderJudge x = new WeakOrderJudge(4, 3);
        check.due("readIn(0, 0)", x.readIn(0, 0), WeakOrderJudge.NOT_SOLVED);
        check.due("memoryIn(0, 0)", x.memoryIn(0, 0), WeakOrderJudge.NOT_SOLVED);
        check.due("runIn(0, 0)", x.runIn(0, 0), WeakOrderJudge.NOT_SOLVED);
        check.due("lost(0, 1)", x.lost(0, 1), WeakOrderJudge.NOT_SOLVED);
        check.due("wished()", x.wished(), WeakOrderJudge.NOT_SOLVED);
    }
}
