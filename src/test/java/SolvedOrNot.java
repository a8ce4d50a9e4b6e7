import java.util.LinkedHashMap;
import java.util.Map;
import java.util.function.Consumer;
import java.util.function.ToIntFunction;

/** What readIn, memoryIn, runIn, lost and wished have in common: they ask for the outcomes of the last solve(). */
final class SolvedOrNot {
    private final Check check;
    private final String name;
    private final ToIntFunction<WeakOrderJudge> asked;

    /** The call that is asked must be a good one on Programs.SOME. */
    SolvedOrNot(Check check, String name, ToIntFunction<WeakOrderJudge> asked) {
        this.check = check;
        this.name = name;
        this.asked = asked;
    }

    void tests() {
        check.test(name + ": a fresh object is not solved", this::freshOne);
        check.test(name + ": not solved before solve(), solved after it", this::beforeAndAfter);
        check.test(name + ": every change that is not refused makes the object not solved", this::changes);
        check.test(name + ": no other call changes whether the object is solved", this::others);
    }

    private void due(String when, WeakOrderJudge x, int due) {
        check.due(name + ", " + when, asked.applyAsInt(x), due);
    }

    private void freshOne() {
        due("a new object", new WeakOrderJudge(2, 2), WeakOrderJudge.NOT_SOLVED);
        due("a new object", new WeakOrderJudge(4, 3), WeakOrderJudge.NOT_SOLVED);
    }

    private void beforeAndAfter() {
        WeakOrderJudge x = Programs.SOME.unsolved();
        due("before solve()", x, WeakOrderJudge.NOT_SOLVED);
        due("asked again", x, WeakOrderJudge.NOT_SOLVED);
        x.solve();
        int answer = asked.applyAsInt(x);
        check.holds(name + " after solve() is not refused: " + answer, answer >= 0);
        due("asked again", x, answer);
        x.solve();
        due("after solve() once more", x, answer);
    }

    private void changes() {
        for (Map.Entry<String, Consumer<WeakOrderJudge>> change : changing().entrySet()) {
            WeakOrderJudge x = Programs.SOME.solved();
            change.getValue().accept(x);
            due("after " + change.getKey(), x, WeakOrderJudge.NOT_SOLVED);
            due("after " + change.getKey() + ", asked again", x, WeakOrderJudge.NOT_SOLVED);
        }
    }

    private void others() {
        for (Map.Entry<String, Consumer<WeakOrderJudge>> other : keeping().entrySet()) {
            WeakOrderJudge x = Programs.SOME.solved();
            int answer = asked.applyAsInt(x);
            other.getValue().accept(x);
            check.holds(name + " after " + other.getKey() + " is not refused", asked.applyAsInt(x) >= 0);
            if (!other.getKey().startsWith("want")) {
                due("after " + other.getKey(), x, answer);
            }
            WeakOrderJudge unsolved = Programs.SOME.unsolved();
            other.getValue().accept(unsolved);
            due("unsolved, after " + other.getKey(), unsolved, WeakOrderJudge.NOT_SOLVED);
        }
    }

    private static Map<String, Consumer<WeakOrderJudge>> changing() {
        Map<String, Consumer<WeakOrderJudge>> calls = new LinkedHashMap<>();
        calls.put("load(0, 0, 0)", x -> x.load(0, 0, 0));
        calls.put("store(0, 0, 1, 0)", x -> x.store(0, 0, 1, 0));
        calls.put("add(0, 0, 1, 0)", x -> x.add(0, 0, 1, 0));
        calls.put("fence(0, LOADS)", x -> x.fence(0, WeakOrderJudge.LOADS));
        calls.put("fence(0, STORES)", x -> x.fence(0, WeakOrderJudge.STORES));
        calls.put("fence(0, FULL)", x -> x.fence(0, WeakOrderJudge.FULL));
        calls.put("depend(3, 2, DATA)", x -> x.depend(3, 2, WeakOrderJudge.DATA));
        calls.put("depend(1, 0, ADDRESS)", x -> x.depend(1, 0, WeakOrderJudge.ADDRESS));
        calls.put("depend(3, 2, CONTROL)", x -> x.depend(3, 2, WeakOrderJudge.CONTROL));
        calls.put("initial(0, 3), the value that is there", x -> x.initial(0, 3));
        calls.put("initial(1, 4)", x -> x.initial(1, 4));
        calls.put("clear()", WeakOrderJudge::clear);
        return calls;
    }

    private static Map<String, Consumer<WeakOrderJudge>> keeping() {
        Map<String, Consumer<WeakOrderJudge>> calls = new LinkedHashMap<>();
        calls.put("a refused load", x -> x.load(2, 0, 0));
        calls.put("a refused store", x -> x.store(0, 2, 1, 0));
        calls.put("a refused add", x -> x.add(0, 0, 1, 4));
        calls.put("a refused fence", x -> x.fence(0, 4));
        calls.put("a refused depend", x -> x.depend(1, 0, WeakOrderJudge.DATA));
        calls.put("a refused initial", x -> x.initial(2, 1));
        calls.put("events()", WeakOrderJudge::events);
        calls.put("readIn(0, 0)", x -> x.readIn(0, 0));
        calls.put("memoryIn(0, 0)", x -> x.memoryIn(0, 0));
        calls.put("runIn(0, 0)", x -> x.runIn(0, 0));
        calls.put("always(1, 0)", x -> x.always(1, 0));
        calls.put("lost(1, 0)", x -> x.lost(1, 0));
        calls.put("wished()", WeakOrderJudge::wished);
        calls.put("wantRead(0, 8)", x -> x.wantRead(0, 8));
        calls.put("wantRead(0, -1)", x -> x.wantRead(0, -1));
        calls.put("wantMemory(0, 8)", x -> x.wantMemory(0, 8));
        calls.put("wantMemory(1, -1)", x -> x.wantMemory(1, -1));
        calls.put("a refused wantRead", x -> x.wantRead(1, 8));
        calls.put("a refused wantMemory", x -> x.wantMemory(2, 8));
        return calls;
    }
}
