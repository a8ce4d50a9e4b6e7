/** Promise 12: memoryIn, and the numbering of the outcomes by the end values. */
public final class Promise12MemoryInTest {
    private static final Check check = new Check();

    public static void main(String[] args) {
        new OutcomeCalls(check, "memoryIn", WeakOrderJudge.BAD_ADDRESS, WeakOrderJudge::memoryIn).tests();
        check.test("the end value without an event is the initial one", Promise12MemoryInTest::noEvent);
        check.test("then by the end value at address 0, then at address 1, and so on", Promise12MemoryInTest::numbering);
        check.test("what was read counts before any end value", Promise12MemoryInTest::readsWeighMore);
        check.end();
    }

    private static void noEvent() {
        for (int addresses = 1; addresses <= 3; addresses++) {
            WeakOrderJudge x = new WeakOrderJudge(1, addresses);
            for (int address = 0; address < addresses; address++) {
                x.initial(address, 15 - address);
            }
            check.due("solve()", x.solve(), 1);
            for (int address = 0; address < addresses; address++) {
                check.due("memoryIn(0, " + address + ")", x.memoryIn(0, address), 15 - address);
            }
        }
    }

    private static void numbering() {
        WeakOrderJudge x = new WeakOrderJudge(2, 3);
        for (int thread = 0; thread < 2; thread++) {
            for (int address = 0; address < 3; address++) {
                x.store(thread, address, 15 * (1 - thread) + address * thread, 0);
            }
        }
        check.due("solve()", x.solve(), 8);
        for (int outcome = 0; outcome < 8; outcome++) {
            for (int address = 0; address < 3; address++) {
                boolean great = (outcome >> (2 - address) & 1) == 1;
                check.due("memoryIn(" + outcome + ", " + address + ")", x.memoryIn(outcome, address), great ? 15 : address);
            }
        }
    }

    private static void readsWeighMore() {
        WeakOrderJudge x = new WeakOrderJudge(2, 1);
        x.store(0, 0, 15, 0);
        x.add(1, 0, 1, 0);
        check.due("solve()", x.solve(), 2);
        check.due("readIn(0, 1)", x.readIn(0, 1), 0);
        check.due("memoryIn(0, 0)", x.memoryIn(0, 0), 15);
        check.due("readIn(1, 1)", x.readIn(1, 1), 15);
        check.due("memoryIn(1, 0)", x.memoryIn(1, 0), 0);
    }
}
