/** Promise 1: a new object. */
public final class Promise01NewObjectTest {
    private static final Check check = new Check();

    public static void main(String[] args) {
        counts(1, 1, 1, 1);
        counts(2, 3, 2, 3);
        counts(3, 2, 3, 2);
        counts(4, 3, 4, 3);
        counts(0, 0, 1, 1);
        counts(-7, -1, 1, 1);
        counts(5, 4, 4, 3);
        counts(1, 3, 1, 3);
        counts(4, 1, 4, 1);
        counts(Integer.MIN_VALUE, Integer.MAX_VALUE, 1, 3);
        counts(Integer.MAX_VALUE, Integer.MIN_VALUE, 4, 1);
        startsEmpty();
        check.end();
    }

    private static void counts(int threads, int addresses, int dueThreads, int dueAddresses) {
        String made = "new WeakOrderJudge(" + threads + ", " + addresses + "): ";
        WeakOrderJudge x = new WeakOrderJudge(threads, addresses);
        for (int thread = -1; thread <= 5; thread++) {
            boolean there = thread >= 0 && thread < dueThreads;
            check.due(made + "fence(" + thread + ", 9)", x.fence(thread, 9),
                there ? WeakOrderJudge.BAD_KIND : WeakOrderJudge.BAD_THREAD);
        }
        for (int address = -1; address <= 4; address++) {
            boolean there = address >= 0 && address < dueAddresses;
            check.due(made + "wantMemory(" + address + ", -1)", x.wantMemory(address, -1),
                there ? 0 : WeakOrderJudge.BAD_ADDRESS);
        }
    }

    private static void startsEmpty() {
        WeakOrderJudge x = new WeakOrderJudge(4, 3);
        check.due("events()", x.events(), 0);
        check.due("wished() unsolved", x.wished(), WeakOrderJudge.NOT_SOLVED);
        check.due("memoryIn(0, 0) unsolved", x.memoryIn(0, 0), WeakOrderJudge.NOT_SOLVED);
        check.due("always(0, 0)", x.always(0, 0), WeakOrderJudge.BAD_EVENT);
        check.due("solve()", x.solve(), 1);
        for (int address = 0; address < 3; address++) {
            check.due("memoryIn(0, " + address + ")", x.memoryIn(0, address), 0);
        }
        check.due("wished() without a wish", x.wished(), 1);
        check.due("the first fence", x.fence(0, WeakOrderJudge.FULL), 0);
        check.due("the first event", x.load(0, 0, 0), 0);
    }
}
