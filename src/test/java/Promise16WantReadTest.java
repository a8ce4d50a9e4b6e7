/** Promise 16: wantRead. */
public final class Promise16WantReadTest {
    private static final Check check = new Check();

    public static void main(String[] args) {
        new WishCalls(check, "wantRead", 6, WeakOrderJudge::wantRead, Promise16WantReadTest::sixLoadsOf).tests();
        check.test("BAD_EVENT", Promise16WantReadTest::badEvent);
        check.test("NOT_READING if the event is a store", Promise16WantReadTest::notReading);
        check.test("a value below 0 is no reason to skip a refusal", Promise16WantReadTest::anyValue);
        check.test("a refused call changes nothing", Promise16WantReadTest::changesNothing);
        check.test("in place of an earlier wish for that event", Promise16WantReadTest::replaces);
        check.test("a wish outlives changes of the program", Promise16WantReadTest::outlives);
        check.end();
    }

    private static void due(WeakOrderJudge x, int event, int value, int due) {
        check.due("wantRead(" + event + ", " + value + ")", x.wantRead(event, value), due);
    }

    private static void badEvent() {
        for (int events = 0; events <= 6; events++) {
            WeakOrderJudge x = new WeakOrderJudge(1, 1);
            for (int event = 0; event < events; event++) {
                x.load(0, 0, 0);
            }
            for (int event = 0; event < events; event++) {
                due(x, event, 0, 0);
            }
            for (int event : Edges.outside(0, events - 1)) {
                due(x, event, 0, WeakOrderJudge.BAD_EVENT);
            }
        }
    }

    private static void notReading() {
        for (int event = 0; event < 6; event++) {
            WeakOrderJudge x = new WeakOrderJudge(1, 1);
            for (int other = 0; other < 6; other++) {
                if (other == event) {
                    x.store(0, 0, 1, event % 2);
                } else if (other % 2 == 0) {
                    x.load(0, 0, 0);
                } else {
                    x.add(0, 0, 1, 0);
                }
            }
            for (int other = 0; other < 6; other++) {
                due(x, other, 1, other == event ? WeakOrderJudge.NOT_READING : 0);
            }
        }
    }

    private static void anyValue() {
        for (int value : Edges.outside(0, 15)) {
            for (int event : new int[] {-1, 4}) {
                due(Programs.SOME.unsolved(), event, value, WeakOrderJudge.BAD_EVENT);
            }
            due(Programs.SOME.unsolved(), 1, value, WeakOrderJudge.NOT_READING);
            due(Programs.SOME.unsolved(), 3, value, 0);
        }
    }

    private static void changesNothing() {
        for (int value : new int[] {0, 12, -1}) {
            for (Programs program : Programs.ALL) {
                for (int event : new int[] {-1, program.events()}) {
                    refused(program, event, value, WeakOrderJudge.BAD_EVENT);
                }
            }
            refused(Programs.SOME, 1, value, WeakOrderJudge.NOT_READING);
            refused(Programs.FULL, 1, value, WeakOrderJudge.NOT_READING);
            refused(Programs.LOOSE, 4, value, WeakOrderJudge.NOT_READING);
            refused(Programs.FULL, 5, value, WeakOrderJudge.NOT_READING);
        }
    }

    private static void refused(Programs program, int event, int value, int refusal) {
        new Twins(check).changesNothing("wantRead(" + event + ", " + value + ")", program,
            x -> x.wantRead(event, value), refusal);
    }

    private static WeakOrderJudge sixLoadsOf(int value) {
        WeakOrderJudge x = new WeakOrderJudge(1, 1);
        x.initial(0, value);
        for (int event = 0; event < 6; event++) {
            x.load(0, 0, 0);
        }
        return x;
    }

    private static void holdsIn(WeakOrderJudge x, int event, int value, int outcomes) {
        due(x, event, value, 0);
        check.due("wished() after wantRead(" + event + ", " + value + ")", x.wished(), outcomes);
    }

    private static void replaces() {
        WeakOrderJudge x = new WeakOrderJudge(2, 1);
        x.initial(0, 15);
        x.add(0, 0, 1, 0);
        x.load(1, 0, 0);
        x.solve();
        holdsIn(x, 1, 0, 1);
        holdsIn(x, 1, 15, 1);
        holdsIn(x, 1, 7, 0);
        holdsIn(x, 1, 16, 1);
        holdsIn(x, 1, 23, 0);
        holdsIn(x, 1, 31, 1);
        holdsIn(x, 1, -1, 2);
        holdsIn(x, 0, 15, 2);
        holdsIn(x, 0, 0, 0);
        holdsIn(x, 1, -5, 0);
        holdsIn(x, 0, -1, 2);
    }

    private static void outlives() {
        WeakOrderJudge x = new WeakOrderJudge(1, 1);
        x.load(0, 0, 0);
        due(x, 0, 3, 0);
        x.solve();
        check.due("wished()", x.wished(), 0);
        x.initial(0, 3);
        x.solve();
        check.due("wished() with another initial value", x.wished(), 1);
        x.store(0, 0, 4, 0);
        x.load(0, 0, 0);
        x.solve();
        check.due("wished() with more events", x.wished(), 1);
        due(x, 2, 3, 0);
        check.due("wished() with a wish for the last", x.wished(), 0);
    }
}
