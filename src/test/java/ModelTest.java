/** Many runs of calls, the same every time, each answer compared with that of the Model. */
public final class ModelTest {
    private static final int OBJECTS = 2500;
    private static final int[] ODD = {-1, -2, 4, 6, 7, 8, 15, 16, 17, 180, 720, -16, Integer.MIN_VALUE, Integer.MAX_VALUE};

    private static final Check check = new Check();
    // A row of numbers with a fixed start: what fails once fails in every run.
    private static long seed = 20261115L;

    private final Pair pair;

    private ModelTest(Pair pair) {
        this.pair = pair;
    }

    public static void main(String[] args) {
        for (int object = 0; object < OBJECTS; object++) {
            new ModelTest(new Pair(check, "object " + object, some(5), some(4))).oneObject();
        }
        check.end();
    }

    private static int below(int bound) {
        seed = seed * 6364136223846793005L + 1442695040888963407L;
        return (int) ((seed >>> 33) % bound);
    }

    /** A number from 0 to bound - 1 as a rule, and an odd one now and then. */
    private static int some(int bound) {
        return below(40) == 0 ? ODD[below(ODD.length)] : below(bound);
    }

    private static int value() {
        return below(8) == 0 ? ODD[below(ODD.length)] : below(16);
    }

    private void oneObject() {
        int changes = 5 + below(25);
        for (int i = 0; i < changes; i++) {
            change();
        }
        pair.make(Call.SOLVE);
        pair.lookAtAll(60);
        int rest = below(60);
        for (int i = 0; i < rest; i++) {
            if (below(3) == 0) {
                change();
            } else {
                ask();
            }
        }
    }

    private void change() {
        int kind = below(24);
        if (kind == 0) {
            if (below(4) == 0) {
                pair.make(Call.CLEAR);
            }
        } else if (kind < 12) {
            changeEvents(kind);
        } else if (kind < 15) {
            pair.make(Call.FENCE, some(4), 1 + some(3));
        } else if (kind < 20) {
            int later = some(6);
            int earlier = below(4) == 0 ? some(6) : later - 1 - below(2);
            pair.make(Call.DEPEND, later, earlier, 1 + some(3));
        } else if (kind == 20) {
            pair.make(Call.INITIAL, some(3), value());
        } else {
            int value = below(3) == 0 ? value() : below(4);
            pair.make(kind == 21 ? Call.WANT_READ : Call.WANT_MEMORY, some(kind == 21 ? 6 : 3), value);
        }
    }

    private void changeEvents(int kind) {
        int thread = some(3 + below(2));
        int address = some(3);
        int value = value();
        // Marks bind so much that programs with many of them all look alike.
        int mark = below(4) == 0 ? some(4) : 0;
        if (kind < 4) {
            pair.make(Call.LOAD, thread, address, mark);
        } else {
            pair.make(kind < 8 ? Call.STORE : Call.ADD, thread, address, value, mark);
        }
    }

    private void ask() {
        int a = some(6);
        int b = some(6);
        int outcome = below(3) == 0 ? some(180) : some(5);
        switch (below(9)) {
            case 0, 1 -> pair.make(Call.SOLVE);
            case 2 -> pair.make(Call.EVENTS);
            case 3 -> pair.make(Call.READ_IN, outcome, a);
            case 4 -> pair.make(Call.MEMORY_IN, outcome, a);
            case 5 -> pair.make(Call.RUN_IN, outcome, a);
            case 6 -> pair.make(Call.ALWAYS, a, b);
            case 7 -> pair.make(Call.LOST, a, b);
            default -> pair.make(Call.WISHED);
        }
    }
}
