import java.util.ArrayList;
import java.util.Arrays;
import java.util.List;
import java.util.TreeMap;

/**
 * The document once more, in the freest Java: it takes every run one by one, keeps all of them, and answers each
 * question by looking through them. It shares no idea with the class but the document's own words.
 */
final class Model {
    private record Event(char sort, int thread, int address, int constant, boolean acquiring, boolean releasing) {
        boolean reads() {
            return sort != 'S';
        }

        boolean writes() {
            return sort != 'L';
        }
    }

    private record Fence(int thread, int kind, int place) { }

    private record Dependency(int later, int earlier, int kind) { }

    private final int threads;
    private final int addresses;
    private final List<Event> program = new ArrayList<>();
    private final List<Fence> fences = new ArrayList<>();
    private final List<Dependency> dependencies = new ArrayList<>();
    private final TreeMap<Integer, Integer> readWishes = new TreeMap<>();
    private final TreeMap<Integer, Integer> memoryWishes = new TreeMap<>();
    private int[] start;
    // Outcome by outcome, in ascending order, the runs that have it; null while not solved.
    private TreeMap<List<Integer>, List<List<Integer>>> outcomes = null;

    Model(int threads, int addresses) {
        this.threads = Math.max(1, Math.min(4, threads));
        this.addresses = Math.max(1, Math.min(3, addresses));
        start = new int[this.addresses];
    }

    private static boolean outside(int number, int count) {
        return number < 0 || number >= count;
    }

    private int append(char sort, int thread, int address, int constant, int mark, int greatestMark) {
        if (outside(thread, threads)) {
            return -1;
        }
        if (outside(address, addresses)) {
            return -2;
        }
        if (outside(mark, greatestMark + 1)) {
            return -3;
        }
        if (program.size() == 6) {
            return -4;
        }
        boolean acquiring = sort == 'L' && mark == 1 || sort == 'A' && (mark == 1 || mark == 3);
        boolean releasing = sort == 'S' && mark == 1 || sort == 'A' && (mark == 2 || mark == 3);
        program.add(new Event(sort, thread, address, Math.floorMod(constant, 16), acquiring, releasing));
        outcomes = null;
        return program.size() - 1;
    }

    int load(int thread, int address, int mark) {
        return append('L', thread, address, 0, mark, 1);
    }

    int store(int thread, int address, int value, int mark) {
        return append('S', thread, address, value, mark, 1);
    }

    int add(int thread, int address, int amount, int mark) {
        return append('A', thread, address, amount, mark, 3);
    }

    int fence(int thread, int kind) {
        if (outside(thread, threads)) {
            return -1;
        }
        if (kind != 1 && kind != 2 && kind != 3) {
            return -3;
        }
        if (fences.size() == 8) {
            return -4;
        }
        fences.add(new Fence(thread, kind, program.size()));
        outcomes = null;
        return fences.size() - 1;
    }

    int depend(int later, int earlier, int kind) {
        if (outside(later, program.size()) || outside(earlier, program.size())) {
            return -5;
        }
        Event a = program.get(earlier);
        Event b = program.get(later);
        if (a.thread() != b.thread() || earlier >= later || !a.reads()) {
            return -6;
        }
        if (kind != 1 && kind != 2 && kind != 3) {
            return -3;
        }
        if (kind == 1 && b.sort() == 'L') {
            return -6;
        }
        if (dependencies.stream().anyMatch(d -> d.later() == later && d.kind() == kind)) {
            return -7;
        }
        dependencies.add(new Dependency(later, earlier, kind));
        outcomes = null;
        return 0;
    }

    int initial(int address, int value) {
        if (outside(address, addresses)) {
            return -2;
        }
        start[address] = Math.floorMod(value, 16);
        outcomes = null;
        return 0;
    }

    int clear() {
        program.clear();
        fences.clear();
        dependencies.clear();
        readWishes.clear();
        memoryWishes.clear();
        start = new int[addresses];
        outcomes = null;
        return 0;
    }

    private boolean mustComeFirst(int x, int y) {
        Event a = program.get(x);
        Event b = program.get(y);
        if (a.thread() != b.thread() || x >= y) {
            return false;
        }
        boolean must = a.address() == b.address() || a.acquiring() || b.releasing() || a.releasing() && b.acquiring();
        for (Fence f : fences) {
            if (f.thread() == a.thread() && x < f.place() && f.place() <= y) {
                must |= f.kind() == 3;
                must |= f.kind() == 1 && a.reads();
                must |= f.kind() == 2 && a.writes() && b.writes();
            }
        }
        for (Dependency d : dependencies) {
            if (d.earlier() == x) {
                must |= d.later() == y && d.kind() != 3;
                must |= d.later() == y && d.kind() == 3 && b.writes();
                must |= d.later() < y && d.kind() == 2 && b.writes();
            }
        }
        return must;
    }

    private List<List<Integer>> runs() {
        List<List<Integer>> found = new ArrayList<>();
        extend(new ArrayList<>(), found);
        return found;
    }

    private void extend(List<Integer> begun, List<List<Integer>> found) {
        if (begun.size() == program.size()) {
            found.add(List.copyOf(begun));
            return;
        }
        for (int next = 0; next < program.size(); next++) {
            boolean free = !begun.contains(next);
            for (int other = 0; other < program.size(); other++) {
                free &= begun.contains(other) || !mustComeFirst(other, next);
            }
            if (free) {
                begun.add(next);
                extend(begun, found);
                begun.remove(begun.size() - 1);
            }
        }
    }

    private List<Integer> outcomeOf(List<Integer> run) {
        int[] memory = start.clone();
        Integer[] read = new Integer[program.size()];
        Arrays.fill(read, 0);
        for (int number : run) {
            Event e = program.get(number);
            int d = 0;
            for (Dependency dependency : dependencies) {
                if (dependency.later() == number && dependency.kind() == 1) {
                    d = read[dependency.earlier()];
                }
            }
            if (e.reads()) {
                read[number] = memory[e.address()];
            }
            if (e.sort() == 'S') {
                memory[e.address()] = (e.constant() + d) % 16;
            }
            if (e.sort() == 'A') {
                memory[e.address()] = (read[number] + e.constant() + d) % 16;
            }
        }
        List<Integer> outcome = new ArrayList<>(Arrays.asList(read));
        for (int value : memory) {
            outcome.add(value);
        }
        return outcome;
    }

    private static int compare(List<Integer> one, List<Integer> other) {
        for (int i = 0; i < one.size(); i++) {
            if (!one.get(i).equals(other.get(i))) {
                return one.get(i) - other.get(i);
            }
        }
        return 0;
    }

    int solve() {
        outcomes = new TreeMap<>(Model::compare);
        for (List<Integer> run : runs()) {
            outcomes.computeIfAbsent(outcomeOf(run), none -> new ArrayList<>()).add(run);
        }
        return outcomes.size();
    }

    int events() {
        return program.size();
    }

    private List<Integer> outcome(int number) {
        return new ArrayList<>(outcomes.keySet()).get(number);
    }

    int readIn(int outcome, int event) {
        if (outcomes == null) {
            return -8;
        }
        if (outside(outcome, outcomes.size())) {
            return -9;
        }
        if (outside(event, program.size())) {
            return -5;
        }
        return program.get(event).reads() ? outcome(outcome).get(event) : -11;
    }

    int memoryIn(int outcome, int address) {
        if (outcomes == null) {
            return -8;
        }
        if (outside(outcome, outcomes.size())) {
            return -9;
        }
        return outside(address, addresses) ? -2 : outcome(outcome).get(program.size() + address);
    }

    int runIn(int outcome, int place) {
        if (outcomes == null) {
            return -8;
        }
        if (outside(outcome, outcomes.size())) {
            return -9;
        }
        if (outside(place, program.size())) {
            return -10;
        }
        return outcomes.get(outcome(outcome)).stream().min(Model::compare).get().get(place);
    }

    private static boolean before(List<Integer> run, int a, int b) {
        return run.indexOf(a) < run.indexOf(b);
    }

    int always(int a, int b) {
        if (outside(a, program.size()) || outside(b, program.size())) {
            return -5;
        }
        return runs().stream().allMatch(run -> before(run, a, b)) ? 1 : 0;
    }

    int lost(int a, int b) {
        if (outcomes == null) {
            return -8;
        }
        if (outside(a, program.size()) || outside(b, program.size())) {
            return -5;
        }
        if (a == b) {
            return -6;
        }
        return (int) outcomes.values().stream().filter(runs -> runs.stream().noneMatch(run -> before(run, a, b))).count();
    }

    private static int wish(TreeMap<Integer, Integer> wishes, int what, int value) {
        wishes.remove(what);
        if (value >= 0) {
            wishes.put(what, value % 16);
        }
        return 0;
    }

    int wantRead(int event, int value) {
        if (outside(event, program.size())) {
            return -5;
        }
        return program.get(event).reads() ? wish(readWishes, event, value) : -11;
    }

    int wantMemory(int address, int value) {
        return outside(address, addresses) ? -2 : wish(memoryWishes, address, value);
    }

    int wished() {
        if (outcomes == null) {
            return -8;
        }
        int size = program.size();
        return (int) outcomes.keySet().stream().filter(values ->
            readWishes.entrySet().stream().allMatch(wish -> values.get(wish.getKey()).equals(wish.getValue()))
            && memoryWishes.entrySet().stream().allMatch(wish -> values.get(size + wish.getKey()).equals(wish.getValue())))
            .count();
    }
}
