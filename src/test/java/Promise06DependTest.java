/** Promise 6: depend. */
public final class Promise06DependTest {
    private static final int DATA = WeakOrderJudge.DATA;
    private static final int ADDRESS = WeakOrderJudge.ADDRESS;
    private static final int CONTROL = WeakOrderJudge.CONTROL;
    private static final int BAD_EVENT = WeakOrderJudge.BAD_EVENT;
    private static final int BAD_PAIR = WeakOrderJudge.BAD_PAIR;
    private static final int BAD_KIND = WeakOrderJudge.BAD_KIND;
    private static final int ALREADY = WeakOrderJudge.ALREADY;

    private static final Check check = new Check();

    public static void main(String[] args) {
        check.test("BAD_EVENT if later is not the number of an event", Promise06DependTest::badLater);
        check.test("BAD_EVENT if earlier is not the number of an event", Promise06DependTest::badEarlier);
        check.test("BAD_PAIR if they belong to different threads", Promise06DependTest::otherThreads);
        check.test("BAD_PAIR if earlier >= later", Promise06DependTest::notEarlier);
        check.test("BAD_PAIR if earlier does not read", Promise06DependTest::notReading);
        check.test("BAD_KIND if kind is not DATA, ADDRESS or CONTROL", Promise06DependTest::badKind);
        check.test("BAD_PAIR if kind is DATA and later is a load", Promise06DependTest::dataToALoad);
        check.test("ALREADY if later has a dependency of that kind", Promise06DependTest::already);
        check.test("an event has at most one dependency of each kind", Promise06DependTest::oneOfEachKind);
        check.test("ALREADY leaves the dependencies of the other kinds and events", Promise06DependTest::alreadyLeavesOthers);
        check.test("BAD_EVENT is tested before all else", Promise06DependTest::badEventFirst);
        check.test("BAD_PAIR of the two events is tested before BAD_KIND and ALREADY", Promise06DependTest::badPairSecond);
        check.test("BAD_KIND is tested before BAD_PAIR of data and a load, and before ALREADY", Promise06DependTest::badKindThird);
        check.test("a refused call changes nothing", Promise06DependTest::changesNothing);
        check.test("a call that is not refused makes the object not solved", Promise06DependTest::notSolved);
        check.test("d is what the event has read on which this one depends by data", Promise06DependTest::dataIsAdded);
        check.test("d is 0 if the event depends on none by data", () -> {
            onlyDataIsAdded(ADDRESS);
            onlyDataIsAdded(CONTROL);
        });
        check.end();
    }

    private static void due(WeakOrderJudge x, int later, int earlier, int kind, int due) {
        check.due("depend(" + later + ", " + earlier + ", " + kind + ")", x.depend(later, earlier, kind), due);
    }

    private static WeakOrderJudge additions(int count) {
        WeakOrderJudge x = new WeakOrderJudge(1, 3);
        for (int event = 0; event < count; event++) {
            x.add(0, event % 3, 1, 0);
        }
        return x;
    }

    /** Load, store, addition of thread 0; a load of thread 1; a load of thread 0. */
    private static WeakOrderJudge someEvents() {
        WeakOrderJudge x = new WeakOrderJudge(2, 3);
        x.load(0, 0, 0);
        x.store(0, 1, 1, 0);
        x.add(0, 2, 1, 0);
        x.load(1, 0, 0);
        x.load(0, 1, 0);
        return x;
    }

    private static void badLater() {
        due(new WeakOrderJudge(1, 1), 0, 0, DATA, BAD_EVENT);
        due(new WeakOrderJudge(1, 1), 1, 0, DATA, BAD_EVENT);
        for (int count = 2; count <= 6; count++) {
            for (int kind = DATA; kind <= CONTROL; kind++) {
                due(additions(count), count - 1, 0, kind, 0);
                due(additions(count), 1, 0, kind, 0);
                for (int later : Edges.outside(0, count - 1)) {
                    due(additions(count), later, 0, kind, BAD_EVENT);
                }
            }
        }
    }

    private static void badEarlier() {
        for (int count = 2; count <= 6; count++) {
            for (int kind = DATA; kind <= CONTROL; kind++) {
                due(additions(count), count - 1, 0, kind, 0);
                due(additions(count), count - 1, count - 2, kind, 0);
                for (int earlier : Edges.outside(0, count - 1)) {
                    due(additions(count), count - 1, earlier, kind, BAD_EVENT);
                }
            }
        }
    }

    private static void otherThreads() {
        for (int one = 0; one < 4; one++) {
            for (int other = 0; other < 4; other++) {
                for (int kind = DATA; kind <= CONTROL; kind++) {
                    WeakOrderJudge x = new WeakOrderJudge(4, 1);
                    x.add(one, 0, 1, 0);
                    x.add(other, 0, 1, 0);
                    due(x, 1, 0, kind, one == other ? 0 : BAD_PAIR);
                }
            }
        }
    }

    private static void notEarlier() {
        for (int later = 0; later < 6; later++) {
            for (int earlier = 0; earlier < 6; earlier++) {
                for (int kind = DATA; kind <= CONTROL; kind++) {
                    due(additions(6), later, earlier, kind, earlier < later ? 0 : BAD_PAIR);
                }
            }
        }
    }

    private static void notReading() {
        for (int kind = DATA; kind <= CONTROL; kind++) {
            WeakOrderJudge x = new WeakOrderJudge(1, 3);
            x.load(0, 0, 0);
            x.store(0, 1, 1, 0);
            x.add(0, 2, 1, 0);
            x.store(0, 0, 1, 0);
            due(x, 3, 1, kind, BAD_PAIR);
            due(x, 3, 0, kind, 0);
            x.store(0, 1, 1, 1);
            due(x, 4, 3, kind, BAD_PAIR);
            due(x, 4, 2, kind, 0);
        }
    }

    private static void badKind() {
        for (int kind = DATA; kind <= CONTROL; kind++) {
            due(additions(2), 1, 0, kind, 0);
        }
        for (int kind : Edges.outside(DATA, CONTROL)) {
            due(additions(2), 1, 0, kind, BAD_KIND);
        }
    }

    private static void dataToALoad() {
        for (int mark = 0; mark <= 1; mark++) {
            WeakOrderJudge x = additions(2);
            x.load(0, 0, mark);
            due(x, 2, 0, DATA, BAD_PAIR);
            due(x, 2, 1, DATA, BAD_PAIR);
            due(x, 2, 0, ADDRESS, 0);
            due(x, 2, 1, CONTROL, 0);
            due(x, 2, 0, DATA, BAD_PAIR);
            x.store(0, 0, 1, mark);
            due(x, 3, 2, DATA, 0);
            x.add(0, 0, 1, mark);
            due(x, 4, 2, DATA, 0);
        }
    }

    private static void already() {
        for (int kind = DATA; kind <= CONTROL; kind++) {
            for (int later = 2; later < 6; later++) {
                WeakOrderJudge x = additions(6);
                due(x, later, 0, kind, 0);
                due(x, later, 0, kind, ALREADY);
                due(x, later, 1, kind, ALREADY);
                due(x, 1, 0, kind, 0);
            }
        }
    }

    private static void oneOfEachKind() {
        WeakOrderJudge x = new WeakOrderJudge(1, 3);
        x.load(0, 0, 0);
        x.load(0, 1, 0);
        x.store(0, 2, 1, 0);
        for (int kind = DATA; kind <= CONTROL; kind++) {
            due(x, 2, 0, kind, 0);
            due(x, 2, 0, kind, ALREADY);
            due(x, 2, 1, kind, ALREADY);
        }
        check.due("always(1, 2): the refused ones do not bind", x.always(1, 2), 0);
        check.due("always(0, 2)", x.always(0, 2), 1);
    }

    /** All that there can be; after one call refused with ALREADY, each of them is still there. */
    private static void alreadyLeavesOthers() {
        for (int later = 1; later < 6; later++) {
            for (int kind = DATA; kind <= CONTROL; kind++) {
                for (int other = 1; other < 6; other++) {
                    for (int otherKind = DATA; otherKind <= CONTROL; otherKind++) {
                        WeakOrderJudge x = additions(6);
                        for (int event = 1; event < 6; event++) {
                            for (int taken = DATA; taken <= CONTROL; taken++) {
                                due(x, event, 0, taken, 0);
                            }
                        }
                        due(x, later, 0, kind, ALREADY);
                        due(x, other, 0, otherKind, ALREADY);
                    }
                }
            }
        }
    }

    private static void badEventFirst() {
        for (int kind : new int[] {0, DATA, 4}) {
            for (int number : new int[] {-1, 5}) {
                due(someEvents(), number, number, kind, BAD_EVENT);
                due(someEvents(), number, 1, kind, BAD_EVENT);
                due(someEvents(), number, 3, kind, BAD_EVENT);
                due(someEvents(), 0, number, kind, BAD_EVENT);
                due(someEvents(), 4, number, kind, BAD_EVENT);
            }
            due(someEvents(), -1, 5, kind, BAD_EVENT);
            due(someEvents(), 5, -1, kind, BAD_EVENT);
        }
    }

    private static void badPairSecond() {
        for (int kind : new int[] {0, 4}) {
            due(someEvents(), 3, 0, kind, BAD_PAIR);
            due(someEvents(), 4, 3, kind, BAD_PAIR);
            due(someEvents(), 2, 2, kind, BAD_PAIR);
            due(someEvents(), 2, 4, kind, BAD_PAIR);
            due(someEvents(), 2, 1, kind, BAD_PAIR);
        }
        for (int kind = ADDRESS; kind <= CONTROL; kind++) {
            WeakOrderJudge x = someEvents();
            due(x, 4, 0, kind, 0);
            due(x, 4, 3, kind, BAD_PAIR);
            due(x, 4, 4, kind, BAD_PAIR);
            due(x, 4, 1, kind, BAD_PAIR);
            due(x, 4, 0, kind, ALREADY);
        }
    }

    private static void badKindThird() {
        for (int kind : new int[] {0, 4}) {
            WeakOrderJudge x = someEvents();
            due(x, 4, 0, kind, BAD_KIND);
            for (int taken = DATA; taken <= CONTROL; taken++) {
                due(x, 2, 0, taken, 0);
            }
            due(x, 2, 0, kind, BAD_KIND);
        }
    }

    private static void changesNothing() {
        for (Programs program : Programs.ALL) {
            for (int number : new int[] {-1, program.events()}) {
                refused(program, number, 0, ADDRESS, BAD_EVENT);
                refused(program, program.events() - 1, number, ADDRESS, BAD_EVENT);
            }
        }
        for (int kind = DATA; kind <= CONTROL; kind++) {
            refused(Programs.SOME, 3, 0, kind, BAD_PAIR);
            refused(Programs.SOME, 3, 3, kind, BAD_PAIR);
            refused(Programs.SOME, 2, 3, kind, BAD_PAIR);
            refused(Programs.FULL, 4, 3, kind, BAD_PAIR);
            refused(Programs.FULL, 2, 1, kind, BAD_PAIR);
            refused(Programs.FULL, 0, 2, kind, BAD_PAIR);
            refused(Programs.LOOSE, 5, 2, kind, BAD_PAIR);
            refused(Programs.LOOSE, 5, 5, kind, BAD_PAIR);
            refused(Programs.LOOSE, 2, 1, kind, BAD_PAIR);
        }
        for (int kind : new int[] {0, 4}) {
            refused(Programs.SOME, 1, 0, kind, BAD_KIND);
            refused(Programs.FULL, 2, 0, kind, BAD_KIND);
            refused(Programs.LOOSE, 2, 0, kind, BAD_KIND);
        }
        refused(Programs.SOME, 1, 0, DATA, ALREADY);
        refused(Programs.SOME, 1, 0, CONTROL, ALREADY);
        refused(Programs.FULL, 1, 0, DATA, ALREADY);
        refused(Programs.FULL, 2, 0, ADDRESS, ALREADY);
        refused(Programs.FULL, 2, 0, CONTROL, ALREADY);
        refusedDataToALoad();
        refusedOtherSource();
    }

    private static void refused(Programs program, int later, int earlier, int kind, int refusal) {
        new Twins(check).changesNothing("depend(" + later + ", " + earlier + ", " + kind + ")", program,
            x -> x.depend(later, earlier, kind), refusal);
    }

    private static void refusedDataToALoad() {
        Programs program = new Programs("a program with a load last", 2, 2, "LASL", () -> {
            WeakOrderJudge x = new WeakOrderJudge(2, 2);
            x.initial(0, 1);
            x.initial(1, 2);
            x.load(1, 0, 0);
            x.fence(0, WeakOrderJudge.LOADS);
            x.add(0, 0, 3, 0);
            x.store(1, 1, 4, 0);
            x.fence(1, WeakOrderJudge.FULL);
            x.load(0, 1, 0);
            x.depend(2, 0, CONTROL);
            x.wantRead(0, 4);
            x.wantRead(3, 2);
            return x;
        });
        refused(program, 3, 1, DATA, BAD_PAIR);
    }

    /** ALREADY must not put the new source in place of the old one. */
    private static void refusedOtherSource() {
        for (int kind = DATA; kind <= CONTROL; kind++) {
            int taken = kind;
            Programs program = new Programs("two loads and a store", 1, 3, "LLS", () -> {
                WeakOrderJudge x = new WeakOrderJudge(1, 3);
                x.initial(0, 4);
                x.initial(1, 5);
                x.load(0, 0, 0);
                x.load(0, 1, 0);
                x.store(0, 2, 6, 0);
                x.depend(2, 0, taken);
                return x;
            });
            refused(program, 2, 1, kind, ALREADY);
            refused(program, 2, 0, kind, ALREADY);
        }
    }

    private static void notSolved() {
        for (int kind = DATA; kind <= CONTROL; kind++) {
            WeakOrderJudge x = someEvents();
            x.solve();
            check.holds("it is solved before", x.wished() >= 0);
            due(x, 2, 0, kind, 0);
            check.due("wished() then", x.wished(), WeakOrderJudge.NOT_SOLVED);
            x.solve();
            due(x, 2, 0, kind, ALREADY);
            check.holds("ALREADY leaves it solved", x.wished() >= 0);
        }
    }

    private static void dataIsAdded() {
        WeakOrderJudge x = new WeakOrderJudge(1, 3);
        x.initial(0, 7);
        x.initial(2, 12);
        x.load(0, 0, 0);
        x.store(0, 1, 5, 0);
        x.add(0, 2, 4, 0);
        x.store(0, 0, 3, 0);
        due(x, 1, 0, DATA, 0);
        due(x, 2, 0, DATA, 0);
        due(x, 3, 2, DATA, 0);
        check.due("solve()", x.solve(), 1);
        check.due("the store's constant and what was read", x.memoryIn(0, 1), 12);
        check.due("readIn(0, 2)", x.readIn(0, 2), 12);
        check.due("the addition's old value, constant and what was read", x.memoryIn(0, 2), (12 + 4 + 7) & 15);
        check.due("what an addition read, not what it wrote", x.memoryIn(0, 0), (3 + 12) & 15);
    }

    private static void onlyDataIsAdded(int kind) {
        WeakOrderJudge x = new WeakOrderJudge(1, 2);
        x.initial(0, 7);
        x.load(0, 0, 0);
        x.store(0, 1, 5, 0);
        due(x, 1, 0, kind, 0);
        x.solve();
        check.due("kind " + kind + " adds nothing", x.memoryIn(0, 1), 5);
    }
}
