import java.util.List;
import java.util.function.Supplier;

/**
 * Programs that several tests start from: the empty one, one with room for more, and the full one. Each wish in them
 * holds in some of the outcomes only, so that it shows if it is gone. The sorts of the events: L for a load, S for a
 * store, A for an addition.
 */
record Programs(String name, int threads, int addresses, String sorts, Supplier<WeakOrderJudge> maker) {
    static final Programs EMPTY = new Programs("the empty program", 1, 2, "", Programs::makeEmpty);
    static final Programs SOME = new Programs("a program with room for more", 2, 2, "LSLA", Programs::makeSome);
    static final Programs FULL = new Programs("the full program", 4, 3, "LSALAS", Programs::makeFull);
    static final Programs LOOSE = new Programs("the full program with no two events bound", 3, 3, "LSALSA", Programs::makeLoose);
    static final List<Programs> ALL = List.of(EMPTY, SOME, FULL, LOOSE);

    int events() {
        return sorts.length();
    }

    boolean reads(int event) {
        return sorts.charAt(event) != 'S';
    }

    WeakOrderJudge unsolved() {
        return maker.get();
    }

    WeakOrderJudge solved() {
        WeakOrderJudge x = maker.get();
        x.solve();
        return x;
    }

    private static WeakOrderJudge makeEmpty() {
        return new WeakOrderJudge(1, 2);
    }

    /** 1 depends on 0 by data and by control, a fence binds 3 to 2. */
    private static WeakOrderJudge makeSome() {
        WeakOrderJudge x = new WeakOrderJudge(2, 2);
        x.initial(0, 3);
        x.initial(1, 9);
        x.load(0, 0, 0);
        x.fence(1, WeakOrderJudge.FULL);
        x.store(0, 1, 2, 0);
        x.load(1, 1, 0);
        x.fence(1, WeakOrderJudge.LOADS);
        x.add(1, 0, 5, 0);
        x.depend(1, 0, WeakOrderJudge.DATA);
        x.depend(1, 0, WeakOrderJudge.CONTROL);
        x.wantRead(0, 3);
        x.wantRead(2, 9);
        x.wantMemory(1, 5);
        return x;
    }

    /** All four threads, all three addresses, all eight fences. */
    private static WeakOrderJudge makeFull() {
        WeakOrderJudge x = new WeakOrderJudge(4, 3);
        x.initial(0, 15);
        x.initial(1, 1);
        x.initial(2, 14);
        x.fence(3, WeakOrderJudge.FULL);
        x.load(0, 0, 0);
        x.fence(1, WeakOrderJudge.STORES);
        x.store(0, 1, 2, 1);
        x.fence(0, WeakOrderJudge.STORES);
        x.add(0, 2, 3, 2);
        x.fence(2, WeakOrderJudge.LOADS);
        x.load(1, 1, 0);
        x.fence(1, WeakOrderJudge.LOADS);
        x.add(2, 0, 15, 1);
        x.fence(2, WeakOrderJudge.FULL);
        x.store(3, 2, 6, 0);
        x.fence(3, WeakOrderJudge.FULL);
        x.fence(0, WeakOrderJudge.FULL);
        x.depend(1, 0, WeakOrderJudge.DATA);
        x.depend(2, 0, WeakOrderJudge.ADDRESS);
        x.depend(2, 0, WeakOrderJudge.CONTROL);
        x.wantRead(0, 15);
        x.wantRead(2, 14);
        x.wantRead(3, 1);
        x.wantMemory(1, 1);
        x.wantMemory(2, 6);
        return x;
    }

    /** The fences stand between no two events of their thread. */
    private static WeakOrderJudge makeLoose() {
        WeakOrderJudge x = new WeakOrderJudge(3, 3);
        x.initial(0, 10);
        x.initial(1, 11);
        x.initial(2, 12);
        x.fence(0, WeakOrderJudge.FULL);
        x.fence(1, WeakOrderJudge.FULL);
        for (int thread = 0; thread < 2; thread++) {
            x.load(thread, thread, 0);
            x.fence(2, WeakOrderJudge.FULL);
            x.store(thread, thread + 1, 4 + thread, 0);
            x.fence(2, WeakOrderJudge.LOADS);
            x.add(thread, 2 - 2 * thread, 13, 0);
        }
        x.fence(0, WeakOrderJudge.STORES);
        x.fence(1, WeakOrderJudge.FULL);
        x.wantRead(0, 10);
        x.wantRead(2, 12);
        x.wantRead(3, 11);
        return x;
    }
}
