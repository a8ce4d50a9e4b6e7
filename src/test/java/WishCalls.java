import java.util.function.IntFunction;

/** What wantRead and wantMemory have in common: a wish that a value is value & 15, in place of an earlier one. */
final class WishCalls {
    interface Call {
        int make(WeakOrderJudge x, int what, int value);
    }

    private final Check check;
    private final String name;
    private final int count;
    private final Call call;
    private final IntFunction<WeakOrderJudge> valued;

    /** Of so many things to wish for, each has the given value in the one outcome of the object, which is not solved. */
    WishCalls(Check check, String name, int count, Call call, IntFunction<WeakOrderJudge> valued) {
        this.check = check;
        this.name = name;
        this.count = count;
        this.call = call;
        this.valued = valued;
    }

    void tests() {
        check.test(name + ": the wish is for value & 15", this::cutValues);
        check.test(name + ": a value below 0 removes the wish", this::removes);
        check.test(name + ": a value below 0 removes that wish alone", this::removesThatAlone);
        check.test(name + ": to remove a wish that is not there is no refusal", this::removesNothing);
        check.test(name + ": in place of an earlier wish", this::replaces);
        check.test(name + ": wishes never change whether it is solved", this::solvedOrNot);
    }

    private WeakOrderJudge solved(int value) {
        WeakOrderJudge x = valued.apply(value);
        check.due("solve()", x.solve(), 1);
        return x;
    }

    private void due(WeakOrderJudge x, int what, int value) {
        check.due(name + "(" + what + ", " + value + ")", call.make(x, what, value), 0);
    }

    private void holdsIn(WeakOrderJudge x, int what, int value, int outcomes) {
        due(x, what, value);
        check.due("wished() after " + name + "(" + what + ", " + value + ")", x.wished(), outcomes);
    }

    private void cutValues() {
        for (int what = 0; what < count; what++) {
            for (int there = 0; there <= 15; there++) {
                for (int value = 0; value <= 33; value++) {
                    holdsIn(solved(there), what, value, value % 16 == there ? 1 : 0);
                }
            }
            holdsIn(solved(15), what, Integer.MAX_VALUE, 1);
            holdsIn(solved(14), what, Integer.MAX_VALUE, 0);
            holdsIn(solved(14), what, Integer.MAX_VALUE - 1, 1);
        }
    }

    // The wish that is there first does not hold, and one for value & 15 would hold for one of the values alone.
    private void removes() {
        for (int what = 0; what < count; what++) {
            for (int value : new int[] {-1, -2, -15, -16, -17, Integer.MIN_VALUE, Integer.MIN_VALUE + 1}) {
                for (int there = 0; there <= 15; there++) {
                    WeakOrderJudge x = solved(there);
                    holdsIn(x, what, there + 1, 0);
                    holdsIn(x, what, value, 1);
                }
            }
            holdsIn(solved(9), what, 0, 0);
        }
    }

    private void removesThatAlone() {
        for (int removed = 0; removed < count; removed++) {
            for (int other = 0; other < count; other++) {
                if (other != removed) {
                    WeakOrderJudge x = solved(5);
                    holdsIn(x, removed, 6, 0);
                    holdsIn(x, other, 7, 0);
                    holdsIn(x, removed, -1, 0);
                    holdsIn(x, other, -1, 1);
                }
            }
        }
    }

    private void removesNothing() {
        for (int what = 0; what < count; what++) {
            WeakOrderJudge x = solved(4);
            holdsIn(x, what, -1, 1);
            holdsIn(x, what, -1, 1);
            holdsIn(x, what, 3, 0);
            holdsIn(x, what, -1, 1);
            holdsIn(x, what, -1, 1);
        }
    }

    private void replaces() {
        for (int what = 0; what < count; what++) {
            WeakOrderJudge x = solved(0);
            holdsIn(x, what, 0, 1);
            holdsIn(x, what, 15, 0);
            holdsIn(x, what, 16, 1);
            holdsIn(x, what, 1, 0);
            holdsIn(x, what, 0, 1);
        }
    }

    private void solvedOrNot() {
        for (int what = 0; what < count; what++) {
            for (int value : new int[] {0, 3, 16, -1, Integer.MIN_VALUE}) {
                WeakOrderJudge x = valued.apply(3);
                due(x, what, value);
                check.due("wished() unsolved", x.wished(), WeakOrderJudge.NOT_SOLVED);
                x.solve();
                due(x, what, value);
                check.holds("it stays solved", x.wished() >= 0);
            }
        }
    }
}
