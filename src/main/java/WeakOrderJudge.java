/**
 * Every outcome that a small concurrent program may have on a machine that may carry out the memory
 * accesses of a thread out of order, over one shared memory that all threads see alike.
 */
public final class WeakOrderJudge {
    public static final int LOADS = 1;
    public static final int STORES = 2;
    public static final int FULL = 3;

    public static final int DATA = 1;
    public static final int ADDRESS = 2;
    public static final int CONTROL = 3;

    public static final int BAD_THREAD = -1;
    public static final int BAD_ADDRESS = -2;
    public static final int BAD_KIND = -3;
    public static final int NO_ROOM = -4;
    public static final int BAD_EVENT = -5;
    public static final int BAD_PAIR = -6;
    public static final int ALREADY = -7;
    public static final int NOT_SOLVED = -8;
    public static final int NO_OUTCOME = -9;
    public static final int BAD_PLACE = -10;
    public static final int NOT_READING = -11;

    private static final int ACCEPTED = 0;
    private static final int NONE = -1;

    private static final int MOST_THREADS = 4;
    private static final int MOST_ADDRESSES = 3;
    private static final int MOST_EVENTS = 6;
    private static final int MOST_FENCES = 8;
    private static final int MOST_OUTCOMES = 180;
    // 6! orders of six events.
    private static final int MOST_ORDERS = 720;
    private static final int EVENT_PAIRS = 36;

    private static final int VALUE_BITS = 4;
    private static final int VALUE_MASK = 15;

    // What an event is, as bits that are put together.
    private static final int READS = 1;
    private static final int WRITES = 2;
    private static final int ACQUIRES = 4;
    private static final int RELEASES = 8;

    private final int threadCount;
    private final int addressCount;

    private int eventCount;
    private final int[] threadOf = new int[MOST_EVENTS];
    private final int[] addressOf = new int[MOST_EVENTS];
    private final int[] constantOf = new int[MOST_EVENTS];
    private final int[] traitsOf = new int[MOST_EVENTS];

    private int fenceCount;
    private final int[] fenceThread = new int[MOST_FENCES];
    private final int[] fenceKind = new int[MOST_FENCES];
    private final int[] fencePlace = new int[MOST_FENCES];

    // The event on which an event depends by the kind, or NONE.
    private final int[] dataSource = new int[MOST_EVENTS];
    private final int[] addressSource = new int[MOST_EVENTS];
    private final int[] controlSource = new int[MOST_EVENTS];

    private final int[] initialValue = new int[MOST_ADDRESSES];

    private final int[] wishedRead = new int[MOST_EVENTS];
    private final int[] wishedMemory = new int[MOST_ADDRESSES];

    // The order that holds and the run at hand: each call that needs them fills them anew.
    private final boolean[] bound = new boolean[EVENT_PAIRS];
    private final int[] order = new int[MOST_EVENTS];
    private final int[] memory = new int[MOST_ADDRESSES];
    private final int[] valueRead = new int[MOST_EVENTS];

    // The outcomes of the last solve(), in ascending order of their keys.
    private boolean solved;
    private int outcomeCount;
    private final long[] outcomeKey = new long[MOST_OUTCOMES];
    private final int[] leastRun = new int[MOST_OUTCOMES];
    private final long[] pairsSeen = new long[MOST_OUTCOMES];

    public WeakOrderJudge(int threads, int addresses) {
        threadCount = within(threads, MOST_THREADS);
        addressCount = within(addresses, MOST_ADDRESSES);
        removeAll();
    }

    public int load(int thread, int address, int mark) {
        int refusal = refusalOfEvent(thread, address, mark, 1);
        if (refusal != ACCEPTED) {
            return refusal;
        }
        int acquires = mark == 1 ? ACQUIRES : 0;
        return appendEvent(thread, address, 0, READS | acquires);
    }

    public int store(int thread, int address, int value, int mark) {
        int refusal = refusalOfEvent(thread, address, mark, 1);
        if (refusal != ACCEPTED) {
            return refusal;
        }
        int releases = mark == 1 ? RELEASES : 0;
        return appendEvent(thread, address, value, WRITES | releases);
    }

    public int add(int thread, int address, int amount, int mark) {
        int refusal = refusalOfEvent(thread, address, mark, 3);
        if (refusal != ACCEPTED) {
            return refusal;
        }
        int acquires = (mark & 1) != 0 ? ACQUIRES : 0;
        int releases = (mark & 2) != 0 ? RELEASES : 0;
        return appendEvent(thread, address, amount, READS | WRITES | acquires | releases);
    }

    public int fence(int thread, int kind) {
        if (!isThread(thread)) {
            return BAD_THREAD;
        }
        if (kind != LOADS && kind != STORES && kind != FULL) {
            return BAD_KIND;
        }
        if (fenceCount >= MOST_FENCES) {
            return NO_ROOM;
        }
        int added = fenceCount;
        fenceThread[added] = thread;
        fenceKind[added] = kind;
        fencePlace[added] = eventCount;
        fenceCount++;
        solved = false;
        return added;
    }

    public int depend(int later, int earlier, int kind) {
        if (!isEvent(later) || !isEvent(earlier)) {
            return BAD_EVENT;
        }
        if (threadOf[later] != threadOf[earlier] || earlier >= later || !isA(earlier, READS)) {
            return BAD_PAIR;
        }
        if (kind != DATA && kind != ADDRESS && kind != CONTROL) {
            return BAD_KIND;
        }
        if (kind == DATA && !isA(later, WRITES)) {
            return BAD_PAIR;
        }
        if (kind == DATA) {
            return link(dataSource, later, earlier);
        }
        if (kind == ADDRESS) {
            return link(addressSource, later, earlier);
        }
        return link(controlSource, later, earlier);
    }

    public int initial(int address, int value) {
        if (!isAddress(address)) {
            return BAD_ADDRESS;
        }
        initialValue[address] = value & VALUE_MASK;
        solved = false;
        return ACCEPTED;
    }

    public void clear() {
        removeAll();
    }

    public int solve() {
        findBounds();
        outcomeCount = 0;
        takeFirstOrder();
        boolean more = true;
        for (int tried = 0; tried < MOST_ORDERS && more; tried++) {
            if (isRun()) {
                carryOut();
                keepOutcome();
            }
            more = takeNextOrder();
        }
        solved = true;
        return outcomeCount;
    }

    public int events() {
        return eventCount;
    }

    public int readIn(int outcome, int event) {
        if (!solved) {
            return NOT_SOLVED;
        }
        if (!isOutcome(outcome)) {
            return NO_OUTCOME;
        }
        if (!isEvent(event)) {
            return BAD_EVENT;
        }
        if (!isA(event, READS)) {
            return NOT_READING;
        }
        return readKept(outcome, event);
    }

    public int memoryIn(int outcome, int address) {
        if (!solved) {
            return NOT_SOLVED;
        }
        if (!isOutcome(outcome)) {
            return NO_OUTCOME;
        }
        if (!isAddress(address)) {
            return BAD_ADDRESS;
        }
        return memoryKept(outcome, address);
    }

    public int runIn(int outcome, int place) {
        if (!solved) {
            return NOT_SOLVED;
        }
        if (!isOutcome(outcome)) {
            return NO_OUTCOME;
        }
        if (place < 0 || place >= eventCount) {
            return BAD_PLACE;
        }
        return (leastRun[outcome] >>> (place * VALUE_BITS)) & VALUE_MASK;
    }

    public int always(int a, int b) {
        if (!isEvent(a) || !isEvent(b)) {
            return BAD_EVENT;
        }
        findBounds();
        return bound[a * MOST_EVENTS + b] ? 1 : 0;
    }

    public int lost(int a, int b) {
        if (!solved) {
            return NOT_SOLVED;
        }
        if (!isEvent(a) || !isEvent(b)) {
            return BAD_EVENT;
        }
        if (a == b) {
            return BAD_PAIR;
        }
        long pair = 1L << (a * MOST_EVENTS + b);
        int vanishing = 0;
        for (int outcome = 0; outcome < outcomeCount; outcome++) {
            if ((pairsSeen[outcome] & pair) == 0L) {
                vanishing++;
            }
        }
        return vanishing;
    }

    public int wantRead(int event, int value) {
        if (!isEvent(event)) {
            return BAD_EVENT;
        }
        if (!isA(event, READS)) {
            return NOT_READING;
        }
        wishedRead[event] = value < 0 ? NONE : value & VALUE_MASK;
        return ACCEPTED;
    }

    public int wantMemory(int address, int value) {
        if (!isAddress(address)) {
            return BAD_ADDRESS;
        }
        wishedMemory[address] = value < 0 ? NONE : value & VALUE_MASK;
        return ACCEPTED;
    }

    public int wished() {
        if (!solved) {
            return NOT_SOLVED;
        }
        int fulfilling = 0;
        for (int outcome = 0; outcome < outcomeCount; outcome++) {
            if (readWishesHold(outcome) && memoryWishesHold(outcome)) {
                fulfilling++;
            }
        }
        return fulfilling;
    }

    private static int within(int wanted, int most) {
        if (wanted < 1) {
            return 1;
        }
        return wanted > most ? most : wanted;
    }

    // Event 0 stands in the highest bits and the last address in the lowest, so that the keys ascend
    // just as the outcomes are numbered.
    private static int shiftOfRead(int event) {
        return (MOST_ADDRESSES + MOST_EVENTS - 1 - event) * VALUE_BITS;
    }

    private static int shiftOfMemory(int address) {
        return (MOST_ADDRESSES - 1 - address) * VALUE_BITS;
    }

    private boolean isThread(int thread) {
        return thread >= 0 && thread < threadCount;
    }

    private boolean isAddress(int address) {
        return address >= 0 && address < addressCount;
    }

    private boolean isEvent(int event) {
        return event >= 0 && event < eventCount;
    }

    private boolean isOutcome(int outcome) {
        return outcome >= 0 && outcome < outcomeCount;
    }

    private boolean isA(int event, int trait) {
        return (traitsOf[event] & trait) != 0;
    }

    private void removeAll() {
        eventCount = 0;
        fenceCount = 0;
        solved = false;
        for (int event = 0; event < MOST_EVENTS; event++) {
            dataSource[event] = NONE;
            addressSource[event] = NONE;
            controlSource[event] = NONE;
            wishedRead[event] = NONE;
        }
        for (int address = 0; address < MOST_ADDRESSES; address++) {
            wishedMemory[address] = NONE;
            initialValue[address] = 0;
        }
    }

    private int refusalOfEvent(int thread, int address, int mark, int greatestMark) {
        if (!isThread(thread)) {
            return BAD_THREAD;
        }
        if (!isAddress(address)) {
            return BAD_ADDRESS;
        }
        if (mark < 0 || mark > greatestMark) {
            return BAD_KIND;
        }
        return eventCount >= MOST_EVENTS ? NO_ROOM : ACCEPTED;
    }

    private int appendEvent(int thread, int address, int constant, int traits) {
        int added = eventCount;
        threadOf[added] = thread;
        addressOf[added] = address;
        constantOf[added] = constant & VALUE_MASK;
        traitsOf[added] = traits;
        eventCount++;
        solved = false;
        return added;
    }

    private int link(int[] sources, int later, int earlier) {
        if (sources[later] != NONE) {
            return ALREADY;
        }
        sources[later] = earlier;
        solved = false;
        return ACCEPTED;
    }

    // One event comes before another in every run exactly if a chain of bound pairs leads from it to
    // the other: hence the closure.
    private void findBounds() {
        for (int a = 0; a < eventCount; a++) {
            for (int b = 0; b < eventCount; b++) {
                bound[a * MOST_EVENTS + b] = mustPrecede(a, b);
            }
        }
        for (int middle = 0; middle < eventCount; middle++) {
            for (int a = 0; a < eventCount; a++) {
                for (int b = 0; b < eventCount; b++) {
                    if (bound[a * MOST_EVENTS + middle] && bound[middle * MOST_EVENTS + b]) {
                        bound[a * MOST_EVENTS + b] = true;
                    }
                }
            }
        }
    }

    private boolean mustPrecede(int a, int b) {
        if (a >= b || threadOf[a] != threadOf[b]) {
            return false;
        }
        return addressOf[a] == addressOf[b] || fencesBind(a, b) || marksBind(a, b) || dependenciesBind(a, b);
    }

    private boolean fencesBind(int a, int b) {
        for (int fence = 0; fence < fenceCount; fence++) {
            boolean between = fenceThread[fence] == threadOf[a] && a < fencePlace[fence] && fencePlace[fence] <= b;
            if (between && kindBinds(fenceKind[fence], a, b)) {
                return true;
            }
        }
        return false;
    }

    private boolean kindBinds(int kind, int a, int b) {
        if (kind == LOADS) {
            return isA(a, READS);
        }
        if (kind == STORES) {
            return isA(a, WRITES) && isA(b, WRITES);
        }
        return true;
    }

    private boolean marksBind(int a, int b) {
        return isA(a, ACQUIRES) || isA(b, RELEASES) || (isA(a, RELEASES) && isA(b, ACQUIRES));
    }

    private boolean dependenciesBind(int a, int b) {
        if (dataSource[b] == a || addressSource[b] == a) {
            return true;
        }
        if (!isA(b, WRITES)) {
            return false;
        }
        // A write waits until the addresses of all accesses before it are known.
        for (int between = a + 1; between < b; between++) {
            if (addressSource[between] == a) {
                return true;
            }
        }
        return controlSource[b] == a;
    }

    private void takeFirstOrder() {
        for (int place = 0; place < eventCount; place++) {
            order[place] = place;
        }
    }

    // Orders are taken in ascending order, so that the first run with an outcome is its least run.
    private boolean takeNextOrder() {
        int rise = lastRise();
        if (rise == NONE) {
            return false;
        }
        int swapped = rise + 1;
        for (int place = rise + 2; place < eventCount; place++) {
            if (order[place] > order[rise]) {
                swapped = place;
            }
        }
        swapPlaces(rise, swapped);
        int high = eventCount - 1;
        for (int low = rise + 1; low < high; low++) {
            swapPlaces(low, high);
            high--;
        }
        return true;
    }

    private int lastRise() {
        for (int place = eventCount - 2; place >= 0; place--) {
            if (order[place] < order[place + 1]) {
                return place;
            }
        }
        return NONE;
    }

    private void swapPlaces(int one, int other) {
        int event = order[one];
        order[one] = order[other];
        order[other] = event;
    }

    private boolean isRun() {
        for (int first = 0; first < eventCount; first++) {
            for (int second = first + 1; second < eventCount; second++) {
                if (bound[order[second] * MOST_EVENTS + order[first]]) {
                    return false;
                }
            }
        }
        return true;
    }

    private void carryOut() {
        for (int address = 0; address < addressCount; address++) {
            memory[address] = initialValue[address];
        }
        for (int place = 0; place < eventCount; place++) {
            takeEffect(order[place]);
        }
    }

    private void takeEffect(int event) {
        int address = addressOf[event];
        // A store counts as reading 0: the numbering of outcomes and the sum below both rest on it.
        valueRead[event] = isA(event, READS) ? memory[address] : 0;
        if (isA(event, WRITES)) {
            int sum = valueRead[event] + constantOf[event] + dataFor(event);
            memory[address] = sum & VALUE_MASK;
        }
    }

    private int dataFor(int event) {
        int source = dataSource[event];
        return source == NONE ? 0 : valueRead[source];
    }

    private void keepOutcome() {
        long key = keyOfRun();
        int number = placeOfKey(key);
        if (number == outcomeCount || outcomeKey[number] != key) {
            // The document says that there are never more; the test keeps the index in bounds all the same.
            if (outcomeCount >= MOST_OUTCOMES) {
                return;
            }
            insertOutcome(number, key);
        }
        pairsSeen[number] |= pairsOfRun();
    }

    private int placeOfKey(long key) {
        for (int number = 0; number < outcomeCount; number++) {
            if (outcomeKey[number] >= key) {
                return number;
            }
        }
        return outcomeCount;
    }

    private void insertOutcome(int number, long key) {
        for (int moved = outcomeCount; moved > number; moved--) {
            outcomeKey[moved] = outcomeKey[moved - 1];
            leastRun[moved] = leastRun[moved - 1];
            pairsSeen[moved] = pairsSeen[moved - 1];
        }
        outcomeKey[number] = key;
        leastRun[number] = packedRun();
        pairsSeen[number] = 0L;
        outcomeCount++;
    }

    private long keyOfRun() {
        long key = 0L;
        for (int event = 0; event < eventCount; event++) {
            key |= (long) valueRead[event] << shiftOfRead(event);
        }
        for (int address = 0; address < addressCount; address++) {
            key |= (long) memory[address] << shiftOfMemory(address);
        }
        return key;
    }

    private int packedRun() {
        int packed = 0;
        for (int place = 0; place < eventCount; place++) {
            packed |= order[place] << (place * VALUE_BITS);
        }
        return packed;
    }

    private long pairsOfRun() {
        long pairs = 0L;
        for (int first = 0; first < eventCount; first++) {
            for (int second = first + 1; second < eventCount; second++) {
                pairs |= 1L << (order[first] * MOST_EVENTS + order[second]);
            }
        }
        return pairs;
    }

    private int readKept(int outcome, int event) {
        return (int) (outcomeKey[outcome] >>> shiftOfRead(event)) & VALUE_MASK;
    }

    private int memoryKept(int outcome, int address) {
        return (int) (outcomeKey[outcome] >>> shiftOfMemory(address)) & VALUE_MASK;
    }

    private boolean readWishesHold(int outcome) {
        for (int event = 0; event < eventCount; event++) {
            if (wishedRead[event] != NONE && wishedRead[event] != readKept(outcome, event)) {
                return false;
            }
        }
        return true;
    }

    private boolean memoryWishesHold(int outcome) {
        for (int address = 0; address < addressCount; address++) {
            if (wishedMemory[address] != NONE && wishedMemory[address] != memoryKept(outcome, address)) {
                return false;
            }
        }
        return true;
    }
}
