import java.util.function.Consumer;

/**
 * Every call with every set of arguments at the edges, alone and together, on the empty, the full and other programs,
 * solved or not, compared with the Model.
 */
public final class EveryArgumentTest {
    private static final int[] NUMBERS = {Integer.MIN_VALUE, -1, 0, 1, 2, 3, 4, 5, 6, 7, 8, Integer.MAX_VALUE};
    private static final int[] VALUES = {Integer.MIN_VALUE, -16, -1, 0, 15, 16, Integer.MAX_VALUE};

    private static final Check check = new Check();

    private final String name;
    private final int threads;
    private final int addresses;
    private final Consumer<Pair> maker;
    private Pair pair;

    private EveryArgumentTest(String name, int threads, int addresses, Consumer<Pair> maker) {
        this.name = name;
        this.threads = threads;
        this.addresses = addresses;
        this.maker = maker;
    }

    public static void main(String[] args) {
        everyCall("the empty program", 1, 1, made -> { });
        everyCall("the empty program with all threads", 4, 3, made -> { });
        everyCall("one event", 1, 1, made -> made.make(Call.ADD, 0, 0, 15, 3));
        everyCall("a program with room", 2, 2, EveryArgumentTest::withRoom);
        everyCall("the full program", 3, 3, EveryArgumentTest::full);
        everyCall("the full program, cleared", 3, 3, made -> {
            full(made);
            made.make(Call.SOLVE);
            made.make(Call.CLEAR);
        });
        check.end();
    }

    private static void withRoom(Pair made) {
        made.make(Call.INITIAL, 0, 15);
        made.make(Call.LOAD, 0, 0, 0);
        made.make(Call.FENCE, 0, 1);
        made.make(Call.STORE, 0, 1, 7, 0);
        made.make(Call.ADD, 1, 1, 8, 0);
        made.make(Call.ADD, 1, 0, 1, 2);
        made.make(Call.DEPEND, 1, 0, 1);
        made.make(Call.WANT_READ, 2, 0);
        made.make(Call.WANT_MEMORY, 1, 15);
    }

    private static void full(Pair made) {
        for (int address = 0; address < 3; address++) {
            made.make(Call.INITIAL, address, 13 + address);
        }
        for (int event = 0; event < 6; event++) {
            int thread = event / 3;
            int sort = event % 3;
            made.make(Call.FENCE, thread, 1 + sort);
            if (sort == 0) {
                made.make(Call.LOAD, thread, event % 2, 0);
            } else {
                made.make(sort == 1 ? Call.ADD : Call.STORE, thread, (event + thread) % 3, 5 + event, 0);
            }
        }
        made.make(Call.FENCE, 2, 3);
        made.make(Call.FENCE, 0, 3);
        for (int kind = 1; kind <= 3; kind++) {
            made.make(Call.DEPEND, 2, 0, kind);
        }
        made.make(Call.DEPEND, 5, 4, 1);
        made.make(Call.WANT_READ, 3, 14);
        made.make(Call.WANT_MEMORY, 2, 15);
    }

    private static void everyCall(String name, int threads, int addresses, Consumer<Pair> maker) {
        for (boolean solved : new boolean[] {false, true}) {
            String state = name + (solved ? ", solved" : ", unsolved");
            Consumer<Pair> stateMaker = solved ? maker.andThen(made -> made.make(Call.SOLVE)) : maker;
            check.test(state, () -> {
                for (Call call : Call.values()) {
                    new EveryArgumentTest(state, threads, addresses, stateMaker).everyArgument(call);
                }
            });
        }
    }

    private static boolean isValue(Call call, int argument) {
        return switch (call) {
            case STORE, ADD -> argument == 2;
            case INITIAL, WANT_READ, WANT_MEMORY -> argument == 1;
            default -> false;
        };
    }

    private void everyArgument(Call call) {
        renew();
        int[] arguments = new int[call.arity];
        int sets = 1;
        for (int i = 0; i < call.arity; i++) {
            sets *= choices(call, i).length;
        }
        for (int set = 0; set < sets; set++) {
            int rest = set;
            for (int i = 0; i < call.arity; i++) {
                int[] choices = choices(call, i);
                arguments[i] = choices[rest % choices.length];
                rest /= choices.length;
            }
            int answer = pair.make(call, arguments);
            // After many refused calls, and after every other one, all that it tells must be right as well.
            if (answer >= 0 || pair.callsLeft() < 300) {
                pair.lookAtAll(10);
                renew();
            }
        }
        pair.lookAtAll(10);
    }

    private static int[] choices(Call call, int argument) {
        return isValue(call, argument) ? VALUES : NUMBERS;
    }

    private void renew() {
        pair = new Pair(check, name, threads, addresses);
        maker.accept(pair);
    }
}
