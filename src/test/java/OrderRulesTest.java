/**
 * The ten rules of the order that holds, each alone: two or three events of one thread with addresses that differ,
 * so that nothing but the rule at hand can bind them.
 */
public final class OrderRulesTest {
    private static final int LOAD = 0;
    private static final int STORE = 1;
    private static final int ADDITION = 2;

    private static final Check check = new Check();

    public static void main(String[] args) {
        check.test("nothing binds two events for which no rule holds", OrderRulesTest::nothingBinds);
        check.test("(1) both have the same address", OrderRulesTest::sameAddress);
        check.test("(2), (3), (4) a fence stands between them", OrderRulesTest::fences);
        check.test("(5) a is acquiring; (6) b is releasing", OrderRulesTest::acquiringAndReleasing);
        check.test("(7) a is releasing and b is acquiring", OrderRulesTest::releasingThenAcquiring);
        check.test("(8) by data or by address; (9) by control, and b writes", OrderRulesTest::dependencies);
        check.test("(10) some event c depends on a by address, and b writes", OrderRulesTest::addressOfOneBetween);
        check.test("(10) with c < b, wherever the three stand", OrderRulesTest::everyPlaceOfTheThree);
        check.test("events of different threads are never bound by these rules", OrderRulesTest::otherThreads);
        check.end();
    }

    private static boolean reads(int sort) {
        return sort != STORE;
    }

    private static boolean writes(int sort) {
        return sort != LOAD;
    }

    private static int put(WeakOrderJudge x, int sort, int thread, int address, int mark) {
        if (sort == LOAD) {
            return x.load(thread, address, mark);
        }
        return sort == STORE ? x.store(thread, address, 1, mark) : x.add(thread, address, 1, mark);
    }

    /** Asks always, and solve with lost as well: all must tell the same order. */
    private static void order(String what, WeakOrderJudge x, int a, int b, boolean bound) {
        check.due(what + ": always(" + a + ", " + b + ")", x.always(a, b), bound ? 1 : 0);
        check.due(what + ": always(" + b + ", " + a + ")", x.always(b, a), 0);
        int outcomes = x.solve();
        check.due(what + ": lost(" + b + ", " + a + ")", x.lost(b, a), bound ? outcomes : 0);
        check.due(what + ": lost(" + a + ", " + b + ")", x.lost(a, b), 0);
    }

    private static void nothingBinds() {
        for (int first = LOAD; first <= ADDITION; first++) {
            for (int second = LOAD; second <= ADDITION; second++) {
                WeakOrderJudge x = new WeakOrderJudge(1, 2);
                put(x, first, 0, 0, 0);
                put(x, second, 0, 1, 0);
                order("sorts " + first + ", " + second, x, 0, 1, false);
            }
        }
    }

    private static void sameAddress() {
        for (int first = LOAD; first <= ADDITION; first++) {
            for (int second = LOAD; second <= ADDITION; second++) {
                WeakOrderJudge x = new WeakOrderJudge(1, 2);
                put(x, first, 0, 1, 0);
                put(x, second, 0, 1, 0);
                order("one address, sorts " + first + ", " + second, x, 0, 1, true);
            }
        }
    }

    private static void fences() {
        for (int kind = WeakOrderJudge.LOADS; kind <= WeakOrderJudge.FULL; kind++) {
            for (int first = LOAD; first <= ADDITION; first++) {
                for (int second = LOAD; second <= ADDITION; second++) {
                    WeakOrderJudge x = new WeakOrderJudge(1, 2);
                    put(x, first, 0, 0, 0);
                    x.fence(0, kind);
                    put(x, second, 0, 1, 0);
                    boolean bound = kind == WeakOrderJudge.FULL
                        || kind == WeakOrderJudge.LOADS && reads(first)
                        || kind == WeakOrderJudge.STORES && writes(first) && writes(second);
                    order("fence " + kind + ", sorts " + first + ", " + second, x, 0, 1, bound);
                }
            }
        }
    }

    private static void acquiringAndReleasing() {
        for (int other = LOAD; other <= ADDITION; other++) {
            marked("acquiring load first", LOAD, 1, other, 0, true);
            marked("acquiring load second", other, 0, LOAD, 1, false);
            marked("releasing store first", STORE, 1, other, 0, false);
            marked("releasing store second", other, 0, STORE, 1, true);
            marked("acquiring addition first", ADDITION, 1, other, 0, true);
            marked("acquiring addition second", other, 0, ADDITION, 1, false);
            marked("releasing addition first", ADDITION, 2, other, 0, false);
            marked("releasing addition second", other, 0, ADDITION, 2, true);
            marked("addition with both first", ADDITION, 3, other, 0, true);
            marked("addition with both second", other, 0, ADDITION, 3, true);
        }
    }

    private static void releasingThenAcquiring() {
        marked("releasing store, acquiring load", STORE, 1, LOAD, 1, true);
        marked("releasing store, acquiring addition", STORE, 1, ADDITION, 1, true);
        marked("releasing addition, acquiring load", ADDITION, 2, LOAD, 1, true);
        marked("releasing addition, acquiring addition", ADDITION, 2, ADDITION, 1, true);
    }

    private static void marked(String what, int first, int firstMark, int second, int secondMark, boolean bound) {
        WeakOrderJudge x = new WeakOrderJudge(1, 2);
        put(x, first, 0, 0, firstMark);
        put(x, second, 0, 1, secondMark);
        order(what + ", sorts " + first + ", " + second, x, 0, 1, bound);
    }

    private static void dependencies() {
        for (int kind = WeakOrderJudge.DATA; kind <= WeakOrderJudge.CONTROL; kind++) {
            for (int first = LOAD; first <= ADDITION; first += 2) {
                for (int second = LOAD; second <= ADDITION; second++) {
                    if (kind == WeakOrderJudge.DATA && second == LOAD) {
                        continue;
                    }
                    WeakOrderJudge x = new WeakOrderJudge(1, 2);
                    put(x, first, 0, 0, 0);
                    put(x, second, 0, 1, 0);
                    x.depend(1, 0, kind);
                    boolean bound = kind != WeakOrderJudge.CONTROL || writes(second);
                    order("dependency " + kind + ", sorts " + first + ", " + second, x, 0, 1, bound);
                }
            }
        }
    }

    private static void addressOfOneBetween() {
        for (int kind = WeakOrderJudge.DATA; kind <= WeakOrderJudge.CONTROL; kind++) {
            for (int middle = LOAD; middle <= ADDITION; middle++) {
                for (int last = LOAD; last <= ADDITION; last++) {
                    WeakOrderJudge x = new WeakOrderJudge(1, 3);
                    x.load(0, 0, 0);
                    put(x, middle, 0, 1, 0);
                    put(x, last, 0, 2, 0);
                    x.depend(1, 0, kind);
                    String what = "dependency " + kind + " of the middle, sorts " + middle + ", " + last;
                    order(what, x, 0, 2, kind == WeakOrderJudge.ADDRESS && writes(last));
                    order(what, x, 1, 2, false);
                }
            }
        }
        dependsAfterwards();
    }

    // c stands after b here, so that b does not wait for the address of c.
    private static void dependsAfterwards() {
        WeakOrderJudge x = new WeakOrderJudge(1, 3);
        x.load(0, 0, 0);
        x.store(0, 1, 1, 0);
        x.load(0, 2, 0);
        x.depend(2, 0, WeakOrderJudge.ADDRESS);
        order("the dependent one comes later", x, 0, 1, false);
        order("the dependent one comes later", x, 0, 2, true);
    }

    /** Three of the six numbers are a, b and c; the other events are of another thread. */
    private static void everyPlaceOfTheThree() {
        for (int first = 0; first < 6; first++) {
            for (int second = first + 1; second < 6; second++) {
                for (int third = second + 1; third < 6; third++) {
                    for (int last = LOAD; last <= ADDITION; last++) {
                        order("c before b, sort " + last, threeOfSix(first, second, third, LOAD, last, second),
                            first, third, writes(last));
                        order("b before c, sort " + last, threeOfSix(first, second, third, last, LOAD, third),
                            first, second, false);
                    }
                }
            }
        }
    }

    private static WeakOrderJudge threeOfSix(int first, int second, int third, int secondSort, int thirdSort, int depending) {
        WeakOrderJudge x = new WeakOrderJudge(2, 3);
        for (int event = 0; event < 6; event++) {
            if (event == first) {
                x.load(0, 0, 0);
            } else if (event == second) {
                put(x, secondSort, 0, 1, 0);
            } else if (event == third) {
                put(x, thirdSort, 0, 2, 0);
            } else {
                x.load(1, 0, 0);
            }
        }
        x.depend(depending, first, WeakOrderJudge.ADDRESS);
        return x;
    }

    private static void otherThreads() {
        WeakOrderJudge x = new WeakOrderJudge(3, 3);
        x.add(0, 0, 0, 3);
        x.fence(0, WeakOrderJudge.FULL);
        x.fence(1, WeakOrderJudge.FULL);
        x.add(1, 0, 0, 3);
        order("two threads", x, 0, 1, false);
        x.fence(2, WeakOrderJudge.FULL);
        x.load(0, 1, 0);
        x.load(0, 2, 0);
        x.fence(1, WeakOrderJudge.FULL);
        order("acquiring", x, 0, 2, true);
        order("fences of other threads", x, 2, 3, false);
    }
}
