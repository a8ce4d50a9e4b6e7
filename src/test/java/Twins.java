import java.util.ArrayList;
import java.util.List;
import java.util.function.Supplier;
import java.util.function.ToIntFunction;

/**
 * Two objects with the same history: a call is made on one of them, and then both must tell the same of
 * themselves. It finds what a call that should change nothing has changed, wherever that is held.
 */
final class Twins {
    private static final int EVENTS = 6;
    private static final int ADDRESSES = 3;
    private static final int FENCES = 8;
    private static final int VIEWS = 9;

    private final Check check;

    Twins(Check check) {
        this.check = check;
    }

    /** The call answers the number that is due and changes nothing, whether the object is solved or not. */
    void changesNothing(String call, Programs program, ToIntFunction<WeakOrderJudge> made, int due) {
        unsolvedStays(call, program, made, due);
        solvedStays(call, program, made, due);
    }

    void unsolvedStays(String call, Programs program, ToIntFunction<WeakOrderJudge> made, int due) {
        stays(call + " on " + program.name() + ", unsolved", program, false, made, due);
    }

    void solvedStays(String call, Programs program, ToIntFunction<WeakOrderJudge> made, int due) {
        stays(call + " on " + program.name() + ", solved", program, true, made, due);
    }

    /** The objects of the maker tell the same of themselves as those of the program, unsolved. */
    void sameAs(Programs program, String call, Supplier<WeakOrderJudge> maker) {
        same(call, program, false, maker);
    }

    private void stays(String call, Programs program, boolean solved, ToIntFunction<WeakOrderJudge> made, int due) {
        same(call, program, solved, () -> {
            WeakOrderJudge x = solved ? program.solved() : program.unsolved();
            check.due(call, made.applyAsInt(x), due);
            return x;
        });
    }

    private void same(String call, Programs program, boolean solved, Supplier<WeakOrderJudge> maker) {
        int outcomes = program.unsolved().solve();
        for (int view = 0; view < VIEWS + EVENTS + ADDRESSES; view++) {
            WeakOrderJudge twin = solved ? program.solved() : program.unsolved();
            List<String> got = new Picture(maker.get(), program, solved, outcomes).of(view);
            List<String> want = new Picture(twin, program, solved, outcomes).of(view);
            for (int i = 0; i < Math.max(got.size(), want.size()); i++) {
                String one = i < got.size() ? got.get(i) : "nothing";
                String other = i < want.size() ? want.get(i) : "nothing";
                check.holds("after " + call + ": " + one + "; without it: " + other, one.equals(other));
            }
        }
    }

    /**
     * What an object tells of itself, in one of several views, each of a new object: to see all that it holds, it must
     * be changed. A view asks in one way alone and, but for its last call, nothing that is refused: a call that wrongly
     * changes something would do it to both twins and so be hidden.
     */
    private record Picture(WeakOrderJudge x, Programs program, boolean solved, int outcomes, List<String> told) {
        Picture(WeakOrderJudge x, Programs program, boolean solved, int outcomes) {
            this(x, program, solved, outcomes, new ArrayList<>());
        }

        List<String> of(int view) {
            switch (view) {
                case 0 -> tell("wished(), as it is", x.wished());
                case 1 -> askSolved(this::memory);
                case 2 -> askSolved(this::reads);
                case 3 -> askSolved(this::runs);
                case 4 -> askSolved(this::lost);
                case 5 -> always();
                case 6 -> dependencies();
                case 7 -> fences();
                case 8 -> growingEvents();
                default -> oneWish(view - VIEWS);
            }
            return told;
        }

        private void tell(String call, int answer) {
            told.add(call + ": " + answer);
        }

        /** What is kept since the last solve(), if there is something, and what solve() finds now. */
        private void askSolved(Runnable asking) {
            if (solved) {
                asking.run();
            }
            tell("solve()", x.solve());
            asking.run();
        }

        private void memory() {
            for (int outcome = 0; outcome < outcomes; outcome++) {
                for (int address = 0; address < program.addresses(); address++) {
                    tell("memoryIn(" + outcome + ", " + address + ")", x.memoryIn(outcome, address));
                }
            }
        }

        private void reads() {
            tell("events()", x.events());
            for (int outcome = 0; outcome < outcomes; outcome++) {
                for (int event = 0; event < program.events(); event++) {
                    if (program.reads(event)) {
                        tell("readIn(" + outcome + ", " + event + ")", x.readIn(outcome, event));
                    }
                }
            }
        }

        private void runs() {
            for (int outcome = 0; outcome < outcomes; outcome++) {
                for (int place = 0; place < program.events(); place++) {
                    tell("runIn(" + outcome + ", " + place + ")", x.runIn(outcome, place));
                }
            }
        }

        private void lost() {
            for (int a = 0; a < program.events(); a++) {
                for (int b = 0; b < program.events(); b++) {
                    if (a != b) {
                        tell("lost(" + a + ", " + b + ")", x.lost(a, b));
                    }
                }
            }
        }

        private void always() {
            for (int a = 0; a < program.events(); a++) {
                for (int b = 0; b < program.events(); b++) {
                    tell("always(" + a + ", " + b + ")", x.always(a, b));
                }
            }
        }

        private void dependencies() {
            for (int later = 1; later < program.events(); later++) {
                for (int earlier = 0; earlier < later; earlier++) {
                    for (int kind = WeakOrderJudge.DATA; kind <= WeakOrderJudge.CONTROL; kind++) {
                        tell("depend(" + later + ", " + earlier + ", " + kind + ")", x.depend(later, earlier, kind));
                    }
                }
            }
        }

        private void fences() {
            int answer = 0;
            for (int fence = 0; fence <= FENCES && answer >= 0; fence++) {
                answer = x.fence(0, WeakOrderJudge.STORES);
                tell("one fence more", answer);
            }
        }

        private void grow() {
            for (int event = program.events(); event < EVENTS; event++) {
                tell("one load more", x.load(0, event % 2, 0));
            }
        }

        /** Each new event may show what was kept for its number. */
        private void growingEvents() {
            grow();
            for (int a = 0; a < EVENTS; a++) {
                for (int b = a + 1; b < EVENTS; b++) {
                    tell("always(" + a + ", " + b + ") of more", x.always(a, b));
                }
            }
            tell("solve() of more", x.solve());
            tell("wished() of more", x.wished());
            tell("one load too many", x.load(0, 0, 0));
        }

        private void oneWish(int kept) {
            for (int event = 0; event < program.events(); event++) {
                if (event != kept && program.reads(event)) {
                    x.wantRead(event, -1);
                }
            }
            for (int address = 0; address < program.addresses(); address++) {
                if (EVENTS + address != kept) {
                    x.wantMemory(address, -1);
                }
            }
            askSolved(() -> tell("wished() with the wish " + kept + " alone", x.wished()));
            grow();
            tell("solve() of more", x.solve());
            tell("wished() of more with the wish " + kept + " alone", x.wished());
        }
    }
}
