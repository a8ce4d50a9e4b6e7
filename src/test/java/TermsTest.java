/** The boundary cases that the section 'Terms' names. The rules of the order one by one are in OrderRulesTest. */
public final class TermsTest {
    private static final Check check = new Check();

    public static void main(String[] args) {
        check.test("an object is used for at most 512 calls", TermsTest::manyCalls);
        check.test("at most 6 events, numbered in the order in which they were added", TermsTest::sixEvents);
        check.test("at most 8 fences", TermsTest::eightFences);
        check.test("a store writes (its constant + d) & 15", TermsTest::storedSums);
        check.test("an addition writes (the value read + its constant + d) & 15", TermsTest::addedSums);
        check.test("d is what the event has read in this run", TermsTest::dataOfThisRun);
        check.test("d is passed on along six events", TermsTest::dataAlongSix);
        check.test("all values are from 0 to 15", TermsTest::allValues);
        check.test("outcomes are numbered in ascending order", TermsTest::ascending);
        check.test("an address that no event has keeps its initial value", TermsTest::untouchedAddress);
        check.test("a call changes nothing but what it says", TermsTest::earlyOrLate);
        check.end();
    }

    private static void manyCalls() {
        WeakOrderJudge solving = OutcomeCalls.additions(0, 0, 1, 1, 2, 3);
        for (int call = 7; call <= 512; call++) {
            check.due("call " + call + ": solve()", solving.solve(), 180);
        }
        WeakOrderJudge refusing = new WeakOrderJudge(1, 1);
        for (int call = 1; call <= 511; call++) {
            check.due("call " + call + ": load(1, 0, 0)", refusing.load(1, 0, 0), WeakOrderJudge.BAD_THREAD);
        }
        check.due("call 512: load(0, 0, 0)", refusing.load(0, 0, 0), 0);
        WeakOrderJudge clearing = new WeakOrderJudge(1, 1);
        for (int round = 0; round < 128; round++) {
            check.due("round " + round + ": store", clearing.store(0, 0, round, 0), 0);
            check.due("round " + round + ": solve()", clearing.solve(), 1);
            check.due("round " + round + ": memoryIn(0, 0)", clearing.memoryIn(0, 0), round & 15);
            clearing.clear();
        }
        WeakOrderJudge wishing = new WeakOrderJudge(1, 1);
        wishing.solve();
        for (int round = 1; round < 256; round++) {
            check.due("round " + round + ": wantMemory", wishing.wantMemory(0, round), 0);
            check.due("round " + round + ": wished()", wishing.wished(), round % 16 == 0 ? 1 : 0);
        }
    }

    private static void sixEvents() {
        for (int turn = 0; turn < 3; turn++) {
            WeakOrderJudge x = new WeakOrderJudge(4, 3);
            for (int event = 0; event < 6; event++) {
                check.due("event " + event, anyEvent(x, (event + turn) % 3, event % 4, event % 3), event);
            }
            for (int sort = 0; sort < 3; sort++) {
                check.due("a seventh event of sort " + sort, anyEvent(x, sort, 0, 0), WeakOrderJudge.NO_ROOM);
            }
            x.solve();
            for (int event = 0; event < 6; event++) {
                boolean store = (event + turn) % 3 == 1;
                check.due("event " + event + " is a store", x.readIn(0, event) == WeakOrderJudge.NOT_READING ? 1 : 0, store ? 1 : 0);
            }
        }
    }

    private static int anyEvent(WeakOrderJudge x, int sort, int thread, int address) {
        if (sort == 0) {
            return x.load(thread, address, 0);
        }
        return sort == 1 ? x.store(thread, address, 1, 0) : x.add(thread, address, 1, 0);
    }

    private static void eightFences() {
        WeakOrderJudge x = new WeakOrderJudge(4, 3);
        for (int fence = 0; fence < 8; fence++) {
            check.due("fence " + fence, x.fence(fence % 4, 1 + fence % 3), fence);
            if (fence < 6) {
                x.load(0, 0, 0);
            }
        }
        for (int thread = 0; thread < 4; thread++) {
            check.due("a ninth fence of thread " + thread, x.fence(thread, 3), WeakOrderJudge.NO_ROOM);
        }
    }

    private static void storedSums() {
        for (int constant = 0; constant <= 15; constant++) {
            for (int d = 0; d <= 15; d++) {
                WeakOrderJudge x = new WeakOrderJudge(1, 2);
                x.initial(0, d);
                x.initial(1, 9);
                x.load(0, 0, 0);
                x.store(0, 1, constant, 0);
                x.depend(1, 0, WeakOrderJudge.DATA);
                check.due("solve()", x.solve(), 1);
                check.due(constant + " + " + d, x.memoryIn(0, 1), (constant + d) % 16);
            }
        }
    }

    private static void addedSums() {
        for (int read = 0; read <= 15; read++) {
            for (int constant = 0; constant <= 15; constant++) {
                for (int d = 0; d <= 15; d++) {
                    WeakOrderJudge x = new WeakOrderJudge(1, 2);
                    x.initial(0, d);
                    x.initial(1, read);
                    x.load(0, 0, 0);
                    x.add(0, 1, constant, 0);
                    x.depend(1, 0, WeakOrderJudge.DATA);
                    check.due("solve()", x.solve(), 1);
                    check.due("the value read", x.readIn(0, 1), read);
                    check.due(read + " + " + constant + " + " + d, x.memoryIn(0, 1), (read + constant + d) % 16);
                }
            }
        }
    }

    // The load reads 0 or 15, and what the store writes then is 2 or 17 & 15.
    private static void dataOfThisRun() {
        WeakOrderJudge x = new WeakOrderJudge(2, 2);
        x.store(0, 0, 15, 0);
        x.load(1, 0, 0);
        x.store(1, 1, 2, 0);
        x.depend(2, 1, WeakOrderJudge.DATA);
        check.due("solve()", x.solve(), 2);
        check.due("readIn(0, 1)", x.readIn(0, 1), 0);
        check.due("memoryIn(0, 1)", x.memoryIn(0, 1), 2);
        check.due("readIn(1, 1)", x.readIn(1, 1), 15);
        check.due("memoryIn(1, 1)", x.memoryIn(1, 1), 1);
    }

    // Each addition adds 15 and what the one before it has read: 15, then 15 + 15 + 15 and so on, cut each time.
    private static void dataAlongSix() {
        WeakOrderJudge x = new WeakOrderJudge(1, 1);
        x.initial(0, 15);
        int memory = 15;
        int[] read = new int[6];
        for (int event = 0; event < 6; event++) {
            x.add(0, 0, 15, 0);
            read[event] = memory;
            memory = (memory + 15 + (event > 0 ? read[event - 1] : 0)) % 16;
            if (event > 0) {
                x.depend(event, event - 1, WeakOrderJudge.DATA);
            }
        }
        check.due("solve()", x.solve(), 1);
        for (int event = 0; event < 6; event++) {
            check.due("readIn(0, " + event + ")", x.readIn(0, event), read[event]);
        }
        check.due("memoryIn(0, 0)", x.memoryIn(0, 0), memory);
    }

    private static void allValues() {
        for (int value : new int[] {Integer.MIN_VALUE, -1, 16, 255, Integer.MAX_VALUE}) {
            WeakOrderJudge x = new WeakOrderJudge(3, 2);
            x.initial(0, value);
            x.initial(1, value);
            x.add(0, 0, value, 0);
            x.add(0, 1, value, 0);
            x.add(1, 0, value, 0);
            x.store(1, 1, value, 0);
            x.load(2, 0, 0);
            x.load(2, 1, 0);
            x.depend(1, 0, WeakOrderJudge.DATA);
            x.depend(3, 2, WeakOrderJudge.DATA);
            int outcomes = x.solve();
            for (int outcome = 0; outcome < outcomes; outcome++) {
                for (int event = 0; event < 6; event++) {
                    int read = x.readIn(outcome, event);
                    check.holds("readIn: " + read, read >= 0 && read <= 15 || event == 3);
                }
                for (int address = 0; address < 2; address++) {
                    int end = x.memoryIn(outcome, address);
                    check.holds("memoryIn: " + end, end >= 0 && end <= 15);
                }
            }
        }
    }

    private static void ascending() {
        // Several objects, as one may not be asked so often.
        for (int first = 0; first < 180; first += 36) {
            WeakOrderJudge x = OutcomeCalls.additions(0, 0, 1, 1, 2, 3);
            check.due("solve()", x.solve(), 180);
            ascends("180 outcomes", x, first, Math.min(first + 36, 179));
        }
        for (Programs program : Programs.ALL) {
            WeakOrderJudge x = program.unsolved();
            ascends(program.name(), x, 0, x.solve() - 1);
        }
    }

    private static void ascends(String name, WeakOrderJudge x, int first, int last) {
        long before = -1;
        for (int outcome = first; outcome <= last; outcome++) {
            long key = key(x, outcome);
            check.holds(name + ": outcome " + outcome + " comes after the one before it", key > before);
            before = key;
        }
    }

    private static long key(WeakOrderJudge x, int outcome) {
        long key = 0;
        for (int event = 0; event < 6; event++) {
            key = key * 16 + Math.max(0, x.readIn(outcome, event));
        }
        for (int address = 0; address < 3; address++) {
            key = key * 16 + Math.max(0, x.memoryIn(outcome, address));
        }
        return key;
    }

    private static void untouchedAddress() {
        for (int touched = 0; touched < 3; touched++) {
            WeakOrderJudge x = new WeakOrderJudge(1, 3);
            for (int address = 0; address < 3; address++) {
                x.initial(address, 15 - address);
            }
            x.store(0, touched, 7, 0);
            x.solve();
            for (int address = 0; address < 3; address++) {
                check.due("memoryIn(0, " + address + ")", x.memoryIn(0, address), address == touched ? 7 : 15 - address);
            }
        }
    }

    /** The same program, wishes and initial values, each said as early or as late as can be, with solve() between. */
    private static void earlyOrLate() {
        Programs late = new Programs("the late calls", 2, 2, "LAASL", TermsTest::late);
        new Twins(check).sameAs(late, "the early calls", TermsTest::early);
    }

    private static WeakOrderJudge early() {
        WeakOrderJudge x = new WeakOrderJudge(2, 2);
        x.initial(0, 6);
        x.initial(1, 9);
        x.wantMemory(1, 3);
        x.load(0, 0, 0);
        x.wantRead(0, 6);
        x.fence(1, WeakOrderJudge.FULL);
        x.add(0, 1, 2, 0);
        x.depend(1, 0, WeakOrderJudge.DATA);
        x.solve();
        x.depend(1, 0, WeakOrderJudge.CONTROL);
        x.wantRead(1, 9);
        x.add(1, 0, 5, 0);
        x.solve();
        x.wantRead(2, 7);
        x.fence(1, WeakOrderJudge.STORES);
        x.store(1, 1, 3, 0);
        x.load(0, 1, 1);
        x.depend(4, 0, WeakOrderJudge.ADDRESS);
        x.solve();
        x.fence(0, WeakOrderJudge.LOADS);
        return x;
    }

    private static WeakOrderJudge late() {
        WeakOrderJudge x = new WeakOrderJudge(2, 2);
        x.load(0, 0, 0);
        x.fence(1, WeakOrderJudge.FULL);
        x.add(0, 1, 2, 0);
        x.add(1, 0, 5, 0);
        x.fence(1, WeakOrderJudge.STORES);
        x.store(1, 1, 3, 0);
        x.load(0, 1, 1);
        x.fence(0, WeakOrderJudge.LOADS);
        x.depend(4, 0, WeakOrderJudge.ADDRESS);
        x.depend(1, 0, WeakOrderJudge.CONTROL);
        x.depend(1, 0, WeakOrderJudge.DATA);
        x.wantRead(2, 7);
        x.wantRead(1, 9);
        x.wantRead(0, 6);
        x.wantMemory(1, 3);
        x.initial(1, 9);
        x.initial(0, 6);
        return x;
    }
}
