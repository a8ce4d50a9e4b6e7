/** Promise 8: clear. */
public final class Promise08ClearTest {
    private static final Check check = new Check();

    public static void main(String[] args) {
        check.test("removes all events", Promise08ClearTest::events);
        check.test("removes all fences", Promise08ClearTest::fences);
        check.test("removes all dependencies", Promise08ClearTest::dependencies);
        check.test("removes all wishes for events", Promise08ClearTest::readWishes);
        check.test("removes all wishes for addresses", Promise08ClearTest::memoryWishes);
        check.test("sets all initial values to 0", Promise08ClearTest::initialValues);
        check.test("every clear() makes the object not solved", Promise08ClearTest::notSolved);
        check.test("the full program has its whole room again", Promise08ClearTest::makesRoom);
        check.test("marks do not outlive it", Promise08ClearTest::marks);
        check.test("the threads and addresses stay", Promise08ClearTest::keepsTheCounts);
        check.test("a cleared object is as a new one", Promise08ClearTest::asNew);
        check.test("a cleared object solves lesser programs as a new one", Promise08ClearTest::lesserPrograms);
        check.end();
    }

    private static void events() {
        for (Programs program : Programs.ALL) {
            for (WeakOrderJudge x : new WeakOrderJudge[] {program.unsolved(), program.solved()}) {
                x.clear();
                check.due("events()", x.events(), 0);
                check.due("always(0, 1)", x.always(0, 1), WeakOrderJudge.BAD_EVENT);
                check.due("wantRead(0, 1)", x.wantRead(0, 1), WeakOrderJudge.BAD_EVENT);
                check.due("depend(1, 0, 1)", x.depend(1, 0, 1), WeakOrderJudge.BAD_EVENT);
                check.due("solve()", x.solve(), 1);
                check.due("readIn(0, 0)", x.readIn(0, 0), WeakOrderJudge.BAD_EVENT);
                check.due("runIn(0, 0)", x.runIn(0, 0), WeakOrderJudge.BAD_PLACE);
                check.due("memoryIn(1, 0)", x.memoryIn(1, 0), WeakOrderJudge.NO_OUTCOME);
            }
        }
    }

    private static void fences() {
        for (int place = 0; place <= 2; place++) {
            WeakOrderJudge x = new WeakOrderJudge(1, 2);
            for (int event = 0; event < place; event++) {
                x.load(0, event, 0);
            }
            for (int fence = 0; fence < 8; fence++) {
                x.fence(0, WeakOrderJudge.FULL);
            }
            x.clear();
            x.load(0, 0, 0);
            x.load(0, 1, 0);
            check.due("always(0, 1)", x.always(0, 1), 0);
            for (int fence = 0; fence < 8; fence++) {
                check.due("fence " + fence, x.fence(0, WeakOrderJudge.FULL), fence);
            }
        }
    }

    private static void dependencies() {
        for (int kind = WeakOrderJudge.DATA; kind <= WeakOrderJudge.CONTROL; kind++) {
            for (int later = 1; later < 6; later++) {
                WeakOrderJudge x = new WeakOrderJudge(1, 3);
                additions(x, 6);
                x.depend(later, 0, kind);
                x.clear();
                additions(x, 6);
                check.due("always(0, " + later + ")", x.always(0, later), later == 3 ? 1 : 0);
                check.due("depend(" + later + ", 0, " + kind + ")", x.depend(later, 0, kind), 0);
            }
        }
    }

    private static void additions(WeakOrderJudge x, int count) {
        for (int event = 0; event < count; event++) {
            x.add(0, event % 3, 1, 0);
        }
    }

    private static void readWishes() {
        for (int event = 0; event < 6; event++) {
            WeakOrderJudge x = new WeakOrderJudge(1, 3);
            additions(x, 6);
            x.wantRead(event, 9);
            x.solve();
            check.due("wished() before", x.wished(), 0);
            x.clear();
            x.solve();
            check.due("wished() of no event", x.wished(), 1);
            additions(x, 6);
            x.solve();
            check.due("wished() of new events", x.wished(), 1);
        }
    }

    private static void memoryWishes() {
        for (int address = 0; address < 3; address++) {
            WeakOrderJudge x = new WeakOrderJudge(1, 3);
            x.wantMemory(address, 9);
            x.solve();
            check.due("wished() before", x.wished(), 0);
            x.clear();
            x.solve();
            check.due("wished() of no event", x.wished(), 1);
        }
    }

    private static void initialValues() {
        for (int set = 0; set < 3; set++) {
            WeakOrderJudge x = new WeakOrderJudge(1, 3);
            x.initial(set, 15);
            x.clear();
            x.solve();
            for (int address = 0; address < 3; address++) {
                check.due("memoryIn(0, " + address + ")", x.memoryIn(0, address), 0);
            }
        }
    }

    private static void notSolved() {
        for (Programs program : Programs.ALL) {
            WeakOrderJudge x = program.solved();
            check.holds("it is solved before", x.wished() >= 0);
            for (int round = 0; round < 3; round++) {
                x.clear();
                check.due("wished()", x.wished(), WeakOrderJudge.NOT_SOLVED);
                check.due("memoryIn(0, 0)", x.memoryIn(0, 0), WeakOrderJudge.NOT_SOLVED);
                check.due("readIn(0, 0)", x.readIn(0, 0), WeakOrderJudge.NOT_SOLVED);
                check.due("runIn(0, 0)", x.runIn(0, 0), WeakOrderJudge.NOT_SOLVED);
                check.due("lost(0, 1)", x.lost(0, 1), WeakOrderJudge.NOT_SOLVED);
                if (round > 0) {
                    check.due("solve()", x.solve(), 1);
                }
            }
        }
    }

    private static void makesRoom() {
        WeakOrderJudge x = Programs.FULL.unsolved();
        for (int round = 0; round < 3; round++) {
            check.due("a seventh event", x.store(0, 0, 1, 0), WeakOrderJudge.NO_ROOM);
            check.due("a ninth fence", x.fence(0, 1), WeakOrderJudge.NO_ROOM);
            x.clear();
            for (int event = 0; event < 6; event++) {
                check.due("event " + event + " of round " + round, x.store(0, 0, 1, 0), event);
            }
            for (int fence = 0; fence < 8; fence++) {
                check.due("fence " + fence + " of round " + round, x.fence(1, 1), fence);
            }
        }
    }

    private static void marks() {
        WeakOrderJudge x = new WeakOrderJudge(1, 2);
        x.add(0, 0, 1, 3);
        x.add(0, 1, 1, 3);
        check.due("always(0, 1) before", x.always(0, 1), 1);
        x.clear();
        x.load(0, 0, 0);
        x.store(0, 1, 1, 0);
        check.due("always(0, 1)", x.always(0, 1), 0);
    }

    private static void keepsTheCounts() {
        WeakOrderJudge x = new WeakOrderJudge(3, 2);
        x.clear();
        check.due("load(2, 1, 0)", x.load(2, 1, 0), 0);
        check.due("load(3, 1, 0)", x.load(3, 1, 0), WeakOrderJudge.BAD_THREAD);
        check.due("load(2, 2, 0)", x.load(2, 2, 0), WeakOrderJudge.BAD_ADDRESS);
    }

    private static void asNew() {
        for (Programs program : Programs.ALL) {
            Programs made = new Programs("a new object for " + program.name(), program.threads(), program.addresses(), "",
                () -> new WeakOrderJudge(program.threads(), program.addresses()));
            new Twins(check).sameAs(made, "clear() of " + program.name(), () -> {
                WeakOrderJudge x = program.solved();
                x.clear();
                return x;
            });
        }
    }

    // What was found for more events must not show when there are fewer.
    private static void lesserPrograms() {
        for (int before = 2; before <= 6; before++) {
            for (int events = 1; events < before; events++) {
                WeakOrderJudge x = new WeakOrderJudge(4, 3);
                for (int event = 0; event < before; event++) {
                    x.add(event % 4, event % 3, 7, 0);
                }
                x.solve();
                x.clear();
                lesserProgram(x, events, events + " additions after " + before + " and clear(): ");
            }
        }
    }

    private static void lesserProgram(WeakOrderJudge x, int events, String what) {
        for (int event = 0; event < events; event++) {
            x.add(0, 0, 1, 0);
        }
        check.due(what + "solve()", x.solve(), 1);
        check.due(what + "wished()", x.wished(), 1);
        check.due(what + "memoryIn(0, 0)", x.memoryIn(0, 0), events);
        for (int event = 0; event < events; event++) {
            check.due(what + "readIn(0, " + event + ")", x.readIn(0, event), event);
            check.due(what + "runIn(0, " + event + ")", x.runIn(0, event), event);
        }
    }
}
