/** Promise 12: memoryIn, and the numbering of the outcomes by the end values. */
public final class Promise12MemoryInTest {
    private static final Check check = new Check();

    public static void main(String[] args) {
        refusals();
        numbering();
        readsWeighMore();
        check.end();
    }

    private static void refusals() {
        WeakOrderJudge x = new WeakOrderJudge(2, 2);
        x.initial(1, 4);
        check.due("memoryIn(9, 9) unsolved", x.memoryIn(9, 9), WeakOrderJudge.NOT_SOLVED);
        x.solve();
        check.due("memoryIn(1, 9)", x.memoryIn(1, 9), WeakOrderJudge.NO_OUTCOME);
        check.due("memoryIn(-1, 0)", x.memoryIn(-1, 0), WeakOrderJudge.NO_OUTCOME);
        check.due("memoryIn(0, 2)", x.memoryIn(0, 2), WeakOrderJudge.BAD_ADDRESS);
        check.due("memoryIn(0, -1)", x.memoryIn(0, -1), WeakOrderJudge.BAD_ADDRESS);
        check.due("memoryIn(0, 0)", x.memoryIn(0, 0), 0);
        check.due("memoryIn(0, 1)", x.memoryIn(0, 1), 4);
        x.store(0, 0, 1, 0);
        check.due("memoryIn(0, 0) after a change", x.memoryIn(0, 0), WeakOrderJudge.NOT_SOLVED);
    }

    private static void numbering() {
        WeakOrderJudge x = new WeakOrderJudge(2, 3);
        for (int thread = 0; thread < 2; thread++) {
            for (int address = 0; address < 3; address++) {
                x.store(thread, address, 15 * (1 - thread) + address * thread, 0);
            }
        }
        check.due("solve()", x.solve(), 8);
        for (int outcome = 0; outcome < 8; outcome++) {
            for (int address = 0; address < 3; address++) {
                boolean great = (outcome >> (2 - address) & 1) == 1;
                check.due("memoryIn(" + outcome + ", " + address + ")", x.memoryIn(outcome, address), great ? 15 : address);
            }
        }
    }

    private static void readsWeighMore() {
        WeakOrderJudge x = new WeakOrderJudge(2, 1);
        x.store(0, 0, 15, 0);
        x.add(1, 0, 1, 0);
        check.due("solve()", x.solve(), 2);
        check.due("readIn(0, 1)", x.readIn(0, 1), 0);
        check.due("memoryIn(0, 0)", x.memoryIn(0, 0), 15);
        check.due("readIn(1, 1)", x.readIn(1, 1), 15);
        check.due("memoryIn(1, 0)", x.memoryIn(1, 0), 0);
    }
}
