import java.util.Arrays;
import java.util.stream.Collectors;

/** The calls of the public face, each to be made on an object and on the Model alike. */
enum Call {
    LOAD("load", 3, (x, a) -> x.load(a[0], a[1], a[2]), (m, a) -> m.load(a[0], a[1], a[2])),
    STORE("store", 4, (x, a) -> x.store(a[0], a[1], a[2], a[3]), (m, a) -> m.store(a[0], a[1], a[2], a[3])),
    ADD("add", 4, (x, a) -> x.add(a[0], a[1], a[2], a[3]), (m, a) -> m.add(a[0], a[1], a[2], a[3])),
    FENCE("fence", 2, (x, a) -> x.fence(a[0], a[1]), (m, a) -> m.fence(a[0], a[1])),
    DEPEND("depend", 3, (x, a) -> x.depend(a[0], a[1], a[2]), (m, a) -> m.depend(a[0], a[1], a[2])),
    INITIAL("initial", 2, (x, a) -> x.initial(a[0], a[1]), (m, a) -> m.initial(a[0], a[1])),
    CLEAR("clear", 0, (x, a) -> cleared(x), (m, a) -> m.clear()),
    SOLVE("solve", 0, (x, a) -> x.solve(), (m, a) -> m.solve()),
    EVENTS("events", 0, (x, a) -> x.events(), (m, a) -> m.events()),
    READ_IN("readIn", 2, (x, a) -> x.readIn(a[0], a[1]), (m, a) -> m.readIn(a[0], a[1])),
    MEMORY_IN("memoryIn", 2, (x, a) -> x.memoryIn(a[0], a[1]), (m, a) -> m.memoryIn(a[0], a[1])),
    RUN_IN("runIn", 2, (x, a) -> x.runIn(a[0], a[1]), (m, a) -> m.runIn(a[0], a[1])),
    ALWAYS("always", 2, (x, a) -> x.always(a[0], a[1]), (m, a) -> m.always(a[0], a[1])),
    LOST("lost", 2, (x, a) -> x.lost(a[0], a[1]), (m, a) -> m.lost(a[0], a[1])),
    WANT_READ("wantRead", 2, (x, a) -> x.wantRead(a[0], a[1]), (m, a) -> m.wantRead(a[0], a[1])),
    WANT_MEMORY("wantMemory", 2, (x, a) -> x.wantMemory(a[0], a[1]), (m, a) -> m.wantMemory(a[0], a[1])),
    WISHED("wished", 0, (x, a) -> x.wished(), (m, a) -> m.wished());

    private interface Made<T> {
        int on(T subject, int[] arguments);
    }

    final int arity;
    private final String name;
    private final Made<WeakOrderJudge> onJudge;
    private final Made<Model> onModel;

    Call(String name, int arity, Made<WeakOrderJudge> onJudge, Made<Model> onModel) {
        this.name = name;
        this.arity = arity;
        this.onJudge = onJudge;
        this.onModel = onModel;
    }

    private static int cleared(WeakOrderJudge x) {
        x.clear();
        return 0;
    }

    int on(WeakOrderJudge x, int... arguments) {
        return onJudge.on(x, arguments);
    }

    int on(Model model, int... arguments) {
        return onModel.on(model, arguments);
    }

    String text(int... arguments) {
        return Arrays.stream(arguments).mapToObj(Integer::toString).collect(Collectors.joining(", ", name + "(", ")"));
    }
}
