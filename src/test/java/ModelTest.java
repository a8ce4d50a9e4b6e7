/** Many runs of calls, the same every time, each answer compared with that of the Model. */
public final class ModelTest {
    private static final int OBJECTS = 2500;
    private static final int CALLS = 512;
    private static final int[] ODD = {-1, -2, 4, 6, 7, 8, 15, 16, 17, 180, 720, -16, Integer.MIN_VALUE, Integer.MAX_VALUE};

    private static final Check check = new Check();
    // A row of numbers with a fixed start: what fails once fails in every run.
    private static long seed = 20261115L;

    private WeakOrderJudge x;
    private Model model;
    private String made;
    private int calls;

    public static void main(String[] args) {
        ModelTest test = new ModelTest();
        for (int object = 0; object < OBJECTS; object++) {
            test.oneObject(object);
        }
        check.end();
    }

    private static int below(int bound) {
        seed = seed * 6364136223846793005L + 1442695040888963407L;
        return (int) ((seed >>> 33) % bound);
    }

    /** A number from 0 to bound - 1 as a rule, and an odd one now and then. */
    private static int some(int bound) {
        return below(40) == 0 ? ODD[below(ODD.length)] : below(bound);
    }

    private static int value() {
        return below(8) == 0 ? ODD[below(ODD.length)] : below(16);
    }

    private void oneObject(int number) {
        int threads = some(5);
        int addresses = some(4);
        x = new WeakOrderJudge(threads, addresses);
        model = new Model(threads, addresses);
        made = "object " + number + ", new WeakOrderJudge(" + threads + ", " + addresses + ")";
        calls = 0;
        int changes = 5 + below(25);
        for (int i = 0; i < changes; i++) {
            change();
        }
        due("solve()", x.solve(), model.solve());
        lookAtAll();
        int rest = below(60);
        for (int i = 0; i < rest; i++) {
            if (below(3) == 0) {
                change();
            } else {
                ask();
            }
        }
    }

    private void due(String call, int got, int want) {
        calls++;
        check.due(made + ", call " + calls + ": " + call, got, want);
    }

    private void change() {
        int kind = below(24);
        if (kind == 0) {
            if (below(4) == 0) {
                x.clear();
                due("clear()", 0, model.clear());
            }
        } else if (kind < 12) {
            changeEvents(kind);
        } else if (kind < 15) {
            int thread = some(4);
            int fence = 1 + some(3);
            due("fence(" + thread + ", " + fence + ")", x.fence(thread, fence), model.fence(thread, fence));
        } else if (kind < 20) {
            int later = some(6);
            int earlier = below(4) == 0 ? some(6) : later - 1 - below(2);
            int dependency = 1 + some(3);
            due("depend(" + later + ", " + earlier + ", " + dependency + ")",
                x.depend(later, earlier, dependency), model.depend(later, earlier, dependency));
        } else if (kind == 20) {
            int address = some(3);
            int value = value();
            due("initial(" + address + ", " + value + ")", x.initial(address, value), model.initial(address, value));
        } else {
            wish(kind);
        }
    }

    private void changeEvents(int kind) {
        int thread = some(3 + below(2));
        int address = some(3);
        int value = value();
        // Marks bind so much that programs with many of them all look alike.
        int mark = below(4) == 0 ? some(4) : 0;
        String places = thread + ", " + address;
        if (kind < 4) {
            due("load(" + places + ", " + mark + ")", x.load(thread, address, mark), model.load(thread, address, mark));
        } else if (kind < 8) {
            due("store(" + places + ", " + value + ", " + mark + ")",
                x.store(thread, address, value, mark), model.store(thread, address, value, mark));
        } else {
            due("add(" + places + ", " + value + ", " + mark + ")",
                x.add(thread, address, value, mark), model.add(thread, address, value, mark));
        }
    }

    private void wish(int kind) {
        int value = below(3) == 0 ? value() : below(4);
        if (kind == 21) {
            int event = some(6);
            due("wantRead(" + event + ", " + value + ")", x.wantRead(event, value), model.wantRead(event, value));
        } else {
            int address = some(3);
            due("wantMemory(" + address + ", " + value + ")", x.wantMemory(address, value), model.wantMemory(address, value));
        }
    }

    private void ask() {
        int a = some(6);
        int b = some(6);
        int outcome = below(3) == 0 ? some(180) : some(5);
        switch (below(9)) {
            case 0, 1 -> due("solve()", x.solve(), model.solve());
            case 2 -> due("events()", x.events(), model.events());
            case 3 -> due("readIn(" + outcome + ", " + a + ")", x.readIn(outcome, a), model.readIn(outcome, a));
            case 4 -> due("memoryIn(" + outcome + ", " + a + ")", x.memoryIn(outcome, a), model.memoryIn(outcome, a));
            case 5 -> due("runIn(" + outcome + ", " + a + ")", x.runIn(outcome, a), model.runIn(outcome, a));
            case 6 -> due("always(" + a + ", " + b + ")", x.always(a, b), model.always(a, b));
            case 7 -> due("lost(" + a + ", " + b + ")", x.lost(a, b), model.lost(a, b));
            default -> due("wished()", x.wished(), model.wished());
        }
    }

    private void lookAtAll() {
        due("wished()", x.wished(), model.wished());
        for (int a = 0; a < model.events(); a++) {
            for (int b = 0; b < model.events(); b++) {
                due("always(" + a + ", " + b + ")", x.always(a, b), model.always(a, b));
                due("lost(" + a + ", " + b + ")", x.lost(a, b), model.lost(a, b));
            }
        }
        int outcomes = model.solve();
        for (int outcome = 0; outcome < outcomes && calls < CALLS - 120; outcome++) {
            for (int place = 0; place < 6; place++) {
                due("readIn(" + outcome + ", " + place + ")", x.readIn(outcome, place), model.readIn(outcome, place));
                due("runIn(" + outcome + ", " + place + ")", x.runIn(outcome, place), model.runIn(outcome, place));
            }
            for (int address = 0; address < 3; address++) {
                due("memoryIn(" + outcome + ", " + address + ")",
                    x.memoryIn(outcome, address), model.memoryIn(outcome, address));
            }
        }
    }
}
