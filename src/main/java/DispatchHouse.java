import java.util.Arrays;

/**
 * Calls whose methods are chosen by the kinds, values and tests of all their arguments; a world of kinds and
 * methods that grows by texts, what can be told of it before anything runs, and programs that run on it.
 */
public final class DispatchHouse {
    private static final int MOST_BYTES = 8192;
    private static final int BYTES_OF_FEED = 20;
    private static final int MOST_FUEL = 100000;
    private static final int MOST_KINDS = 24;
    private static final int MOST_CALLS = 24;
    private static final int MOST_METHODS = 120;
    private static final int MOST_LAYERS = 8;
    private static final int MOST_PLACES = 3;
    private static final int MOST_VARIABLES = 16;
    private static final int MOST_OPEN = 12;
    private static final int MOST_NODES = 300;
    private static final int MOST_TESTS = 6;
    private static final int MOST_DEPTH = 24;
    private static final int MOST_SHOWN = 512;
    private static final int MOST_RAN = 512;
    private static final int WAYS = 3;

    private static final int ANY_KIND = 0;
    private static final int INT_KIND = 1;
    private static final int FAULT_KIND = 2;
    private static final int FIRST_KINDS = 3;

    private static final int KINDS = 0;
    private static final int CALLS = 1;
    private static final int LAYERS = 2;
    private static final int VARIABLES = 3;

    private static final int PLAIN = 0;
    private static final int AROUND_ROLE = 1;
    private static final int BEFORE_ROLE = 2;
    private static final int BEHIND_ROLE = 3;
    private static final int ROLES = 4;

    private static final int JOIN_BEST = 0;
    private static final int JOIN_SUM = 1;
    private static final int JOIN_ALL = 2;
    private static final int JOIN_ANY = 3;
    private static final int JOIN_LEAST = 4;

    private static final int WAY_LEFT = 0;
    private static final int WAY_EACH = 1;

    private static final int AT_MOST_TEST = 0;
    private static final int EQUAL_TEST = 1;
    private static final int IS_TEST = 2;

    private static final int OP_NUMBER = 0;
    private static final int OP_VARIABLE = 1;
    private static final int OP_MAKE = 2;
    private static final int OP_NUMBER_OF = 3;
    private static final int OP_IS = 4;
    private static final int OP_ADD = 5;
    private static final int OP_TAKE_OFF = 6;
    private static final int OP_TIMES = 7;
    private static final int OP_DIVIDE = 8;
    private static final int OP_LESS = 9;
    private static final int OP_AT_MOST = 10;
    private static final int OP_SAME = 11;
    private static final int OP_STORE = 12;
    private static final int OP_BRANCH = 13;
    private static final int OP_JUMP = 14;
    private static final int OP_WITH = 15;
    private static final int OP_WITHOUT = 16;
    private static final int OP_LAYERS_BACK = 17;
    private static final int OP_TRY = 18;
    private static final int OP_TRIED = 19;
    private static final int OP_FAIL = 20;
    private static final int OP_SHOW = 21;
    private static final int OP_CALL = 22;
    private static final int OP_NEXT = 23;
    private static final int OP_NEXT_WITH = 24;
    private static final int OP_RETURN = 25;

    private final World world;
    private final Reader reader;
    private final Nearness nearness;
    private final Lists lists;
    private final Whole whole;
    private final Machine machine;
    private final int[] result;
    private final int[] kindsAsked;
    private byte[] tape;
    private int tapeLength;
    private int resultSize;
    private int choosing;
    private int fuel;
    private boolean hasProgram;

    public DispatchHouse() {
        world = new World();
        reader = new Reader(world);
        nearness = new Nearness(world);
        lists = new Lists(world);
        whole = new Whole(world, nearness);
        machine = new Machine(world, new Chooser(world, nearness, lists));
        result = new int[MOST_RAN];
        kindsAsked = new int[MOST_PLACES];
        tape = new byte[256];
        fuel = 10000;
    }

    public int feed(int a, int b, int c, int d, int e) throws IndexOutOfBoundsException {
        if (tapeLength + BYTES_OF_FEED > MOST_BYTES) {
            throw new IndexOutOfBoundsException();
        }
        if (tapeLength + BYTES_OF_FEED > tape.length) {
            tape = Arrays.copyOf(tape, Math.min(MOST_BYTES, 2 * tape.length));
        }
        putOnTape(a);
        putOnTape(b);
        putOnTape(c);
        putOnTape(d);
        putOnTape(e);
        return tapeLength;
    }

    private void putOnTape(int four) {
        for (int shift = 24; shift >= 0 && tapeLength < tape.length; shift -= 8) {
            tape[tapeLength] = (byte) (four >>> shift);
            tapeLength++;
        }
    }

    public int end(int n) throws IllegalArgumentException {
        if (n < 0 || n > tapeLength) {
            throw new IllegalArgumentException();
        }
        tapeLength = n;
        return n;
    }

    public int tell() {
        int wrong = reader.readText(tape, tapeLength);
        tapeLength = 0;
        return wrong;
    }

    public int program() {
        int wrong = reader.readProgram(tape, tapeLength);
        tapeLength = 0;
        hasProgram = wrong < 0;
        return wrong;
    }

    public void clear() {
        world.beginAnew();
        nearness.forgetAll();
        hasProgram = false;
    }

    public boolean drop(int m) throws IndexOutOfBoundsException {
        if (m < 1 || m > world.methods.told) {
            throw new IndexOutOfBoundsException();
        }
        if (!world.methods.isThere(m)) {
            return false;
        }
        world.methods.call[m] = -1;
        world.takeStock();
        return true;
    }

    public int set(int what, int v) throws IllegalArgumentException {
        int old;
        if (what == 0 && v >= 0 && v <= 3) {
            old = choosing;
            choosing = v;
        } else if (what == 1 && v >= 0 && v < WAYS) {
            old = world.rowWay;
            world.rowWay = v;
            world.version++;
        } else if (what == 2 && v >= 1 && v <= MOST_FUEL) {
            old = fuel;
            fuel = v;
        } else {
            throw new IllegalArgumentException();
        }
        return old;
    }

    public int count(int what) throws IllegalArgumentException {
        switch (what) {
            case 0:
                return world.sizes[KINDS];
            case 1:
                return world.sizes[CALLS];
            case 2:
                return world.methods.told;
            case 3:
                return world.sizes[LAYERS];
            case 4:
                return reader.reason;
            case 5:
                return 2 * resultSize;
            case 6:
                return tapeLength;
            default:
                throw new IllegalArgumentException();
        }
    }

    public boolean below(int a, int b) throws IndexOutOfBoundsException {
        if (!world.isKind(a) || !world.isKind(b)) {
            throw new IndexOutOfBoundsException();
        }
        return world.kinds.isBelow(a, b);
    }

    public int row(int k, int way, int i) throws IndexOutOfBoundsException, IllegalArgumentException {
        if (!world.isKind(k) || i < 0) {
            throw new IndexOutOfBoundsException();
        }
        if (way < 0 || way >= WAYS) {
            throw new IllegalArgumentException();
        }
        return i < world.kinds.rowLength[k] ? world.kinds.inRow(way, k, i) : -1;
    }

    public int nearer(int m, int n, int a, int b, int c) throws IndexOutOfBoundsException, IllegalArgumentException {
        if (!world.methods.isThere(m) || !world.methods.isThere(n)) {
            throw new IndexOutOfBoundsException();
        }
        kindsAsked[0] = a;
        kindsAsked[1] = b;
        kindsAsked[2] = c;
        int places = world.places[world.methods.call[m]];
        for (int p = 0; p < places; p++) {
            if (!world.isKind(kindsAsked[p])) {
                throw new IndexOutOfBoundsException();
            }
        }
        if (world.methods.call[m] != world.methods.call[n]) {
            throw new IllegalArgumentException();
        }
        if (!world.fits(m, kindsAsked) || !world.fits(n, kindsAsked)) {
            throw new IllegalArgumentException();
        }
        return nearness.compare(m, n, kindsAsked);
    }

    public int call(int c, int what) throws IndexOutOfBoundsException, IllegalArgumentException {
        if (c < 0 || c >= world.sizes[CALLS]) {
            throw new IndexOutOfBoundsException();
        }
        switch (what) {
            case 0:
                return world.methodsOf(c);
            case 1:
                return lists.countLists(c);
            case 2:
                return lists.countCells(c);
            case 3:
                return lists.countPressed(c);
            case 4:
                return lists.countNodes(c);
            case 5:
                return whole.judge(c);
            case 6:
            case 7:
            case 8:
                whole.judge(c);
                return whole.kindAt[c * MOST_PLACES + what - 6];
            default:
                throw new IllegalArgumentException();
        }
    }

    public int run() throws IllegalStateException {
        if (!hasProgram) {
            throw new IllegalStateException();
        }
        machine.perform(fuel, choosing);
        return machine.ended;
    }

    public int told(int what) throws IllegalArgumentException {
        switch (what) {
            case 0:
                return machine.ended;
            case 1:
                return machine.hasValue ? Machine.kindOf(machine.value) : -1;
            case 2:
                return machine.hasValue ? (int) machine.value : 0;
            case 3:
                return machine.steps;
            case 4:
                return machine.shownCount;
            case 5:
                return machine.began;
            case 6:
                return machine.chooser.looks;
            default:
                throw new IllegalArgumentException();
        }
    }

    public int shown(int i) throws IndexOutOfBoundsException {
        if (i < 0 || i >= machine.shownCount) {
            throw new IndexOutOfBoundsException();
        }
        return machine.shownNumbers[i];
    }

    public int ran() throws IllegalStateException {
        if (machine.ended < 0) {
            throw new IllegalStateException();
        }
        resultSize = Math.min(machine.began, MOST_RAN);
        System.arraycopy(machine.begunMethods, 0, result, 0, resultSize);
        return 2 * resultSize;
    }

    public long word(int i) throws IndexOutOfBoundsException {
        if (i < 0 || i >= 2 * resultSize) {
            throw new IndexOutOfBoundsException();
        }
        long bytes = 0;
        for (int at = i; at < i + 8; at++) {
            bytes = bytes << 8 | byteOfResult(at);
        }
        return bytes;
    }

    private int byteOfResult(int at) {
        int number = at >> 1;
        if (number < 0 || number >= resultSize) {
            return 0;
        }
        return (at & 1) == 0 ? result[number] >> 8 & 255 : result[number] & 255;
    }

    /** The kinds: what each is below of, and its rows by the three ways. */
    private static final class Kinds {
        final boolean[] bare = new boolean[MOST_KINDS];
        final int[] above = new int[MOST_KINDS];
        final int[] rowLength = new int[MOST_KINDS];
        final int[] parents = new int[MOST_KINDS];
        int parentCount;
        private final int[] rows = new int[WAYS * MOST_KINDS * MOST_KINDS];
        private final int[] spots = new int[WAYS * MOST_KINDS * MOST_KINDS];
        private final int[] heads = new int[MOST_KINDS + 1];

        boolean isBelow(int a, int b) {
            return (above[a] >> b & 1) != 0;
        }

        int inRow(int way, int k, int i) {
            return rows[(way * MOST_KINDS + k) * MOST_KINDS + i];
        }

        /** The place, from 0, of a kind in the row of a kind that is below it. */
        int spotInRow(int way, int k, int kind) {
            return spots[(way * MOST_KINDS + k) * MOST_KINDS + kind];
        }

        boolean isParent(int kind) {
            for (int i = 0; i < parentCount; i++) {
                if (parents[i] == kind) {
                    return true;
                }
            }
            return false;
        }

        void addParent(int kind) {
            if (parentCount < parents.length) {
                parents[parentCount] = kind;
                parentCount++;
            }
        }

        /** Makes kind k of the parents gathered before: whether its row by way 0 could be made. */
        boolean make(int k, boolean isBare) {
            bare[k] = isBare;
            above[k] = 1 << k;
            for (int i = 0; i < parentCount; i++) {
                above[k] |= above[parents[i]];
            }
            rowLength[k] = Integer.bitCount(above[k]);
            if (!merge(k)) {
                return false;
            }
            joinByFirst(k);
            joinByLast(k);
            for (int way = 0; way < WAYS; way++) {
                for (int i = 0; i < rowLength[k]; i++) {
                    spots[(way * MOST_KINDS + k) * MOST_KINDS + inRow(way, k, i)] = i;
                }
            }
            return true;
        }

        private void putInRow(int way, int k, int i, int kind) {
            rows[(way * MOST_KINDS + k) * MOST_KINDS + i] = kind;
        }

        private boolean merge(int k) {
            Arrays.fill(heads, 0);
            putInRow(0, k, 0, k);
            for (int i = 1; i < rowLength[k]; i++) {
                int kind = firstFreeHead();
                if (kind < 0) {
                    return false;
                }
                putInRow(0, k, i, kind);
                for (int list = 0; list <= parentCount; list++) {
                    if (heads[list] < listLength(list) && inList(list, heads[list]) == kind) {
                        heads[list]++;
                    }
                }
            }
            return true;
        }

        // the lists of a merge are the parents' rows and, behind them, the row of the parents
        private int listLength(int list) {
            return list < parentCount ? rowLength[parents[list]] : parentCount;
        }

        private int inList(int list, int i) {
            return list < parentCount ? rows[parents[list] * MOST_KINDS + i] : parents[i];
        }

        private int firstFreeHead() {
            for (int list = 0; list <= parentCount; list++) {
                if (heads[list] < listLength(list)) {
                    int kind = inList(list, heads[list]);
                    if (!isBehindAHead(kind)) {
                        return kind;
                    }
                }
            }
            return -1;
        }

        private boolean isBehindAHead(int kind) {
            for (int list = 0; list <= parentCount; list++) {
                for (int i = heads[list] + 1; i < listLength(list); i++) {
                    if (inList(list, i) == kind) {
                        return true;
                    }
                }
            }
            return false;
        }

        private void joinByFirst(int k) {
            putInRow(1, k, 0, k);
            int seen = 1 << k;
            int filled = 1;
            for (int list = 0; list < parentCount; list++) {
                for (int i = 0; i < rowLength[parents[list]]; i++) {
                    int kind = inRow(1, parents[list], i);
                    if ((seen >> kind & 1) == 0) {
                        seen |= 1 << kind;
                        putInRow(1, k, filled, kind);
                        filled++;
                    }
                }
            }
        }

        private void joinByLast(int k) {
            putInRow(2, k, 0, k);
            int seen = 1 << k;
            int free = rowLength[k] - 1;
            for (int list = parentCount - 1; list >= 0; list--) {
                for (int i = rowLength[parents[list]] - 1; i >= 0; i--) {
                    int kind = inRow(2, parents[list], i);
                    if ((seen >> kind & 1) == 0) {
                        seen |= 1 << kind;
                        putInRow(2, k, free, kind);
                        free--;
                    }
                }
            }
        }
    }

    /** What each method asks of its arguments; method told + 1 is the one that is being read. */
    private static final class Methods {
        private static final int ROOM = MOST_METHODS + 2;

        int told;
        final int[] call = new int[ROOM];
        final int[] role = new int[ROOM];
        final int[] layer = new int[ROOM];
        final int[] start = new int[ROOM];
        final int[] kind = new int[ROOM * MOST_PLACES];
        final boolean[] hasEqual = new boolean[ROOM * MOST_PLACES];
        final int[] equal = new int[ROOM * MOST_PLACES];
        /** A test says: left variable - right variable <= or == bound (variable 0 being 0), or left is kind right. */
        final int[] tests = new int[ROOM];
        final int[] testSort = new int[ROOM * MOST_TESTS];
        final int[] testLeft = new int[ROOM * MOST_TESTS];
        final int[] testRight = new int[ROOM * MOST_TESTS];
        final long[] testBound = new long[ROOM * MOST_TESTS];
        /** Bit i: whether the TEST holds if just those of its tests hold whose bits are in i. */
        final long[] truthTable = new long[ROOM];

        boolean isThere(int m) {
            return m >= 1 && m <= told && call[m] >= 0;
        }

        void open(int m, int itsCall) {
            call[m] = itsCall;
            role[m] = PLAIN;
            layer[m] = -1;
            tests[m] = 0;
            truthTable[m] = -1L;
            for (int p = 0; p < MOST_PLACES; p++) {
                kind[m * MOST_PLACES + p] = ANY_KIND;
                hasEqual[m * MOST_PLACES + p] = false;
                equal[m * MOST_PLACES + p] = 0;
            }
        }

        int addTest(int m, int sort, int left, int right, long bound) {
            int number = tests[m];
            if (number >= MOST_TESTS) {
                return MOST_TESTS - 1;
            }
            int at = m * MOST_TESTS + number;
            testSort[at] = sort;
            testLeft[at] = left;
            testRight[at] = right;
            testBound[at] = bound;
            tests[m]++;
            return number;
        }

        /** How many ==, comparisons and is it has. */
        int asked(int m) {
            int all = tests[m];
            for (int p = 0; p < MOST_PLACES; p++) {
                if (hasEqual[m * MOST_PLACES + p]) {
                    all++;
                }
            }
            return all;
        }

        boolean sameKinds(int m, int n) {
            for (int p = 0; p < MOST_PLACES; p++) {
                if (kind[m * MOST_PLACES + p] != kind[n * MOST_PLACES + p]) {
                    return false;
                }
            }
            return true;
        }

        private boolean sameEquals(int m, int n) {
            for (int p = 0; p < MOST_PLACES; p++) {
                int a = m * MOST_PLACES + p;
                int b = n * MOST_PLACES + p;
                if (hasEqual[a] != hasEqual[b] || equal[a] != equal[b]) {
                    return false;
                }
            }
            return true;
        }

        boolean hasTwin(int m) {
            for (int n = 1; n < m; n++) {
                if (call[n] == call[m] && role[n] == role[m] && layer[n] == layer[m] && tests[n] == 0 && tests[m] == 0
                        && sameKinds(m, n) && sameEquals(m, n)) {
                    return true;
                }
            }
            return false;
        }
    }

    /** The E of the program, from 0 on, and those of the methods behind it, made flat. */
    private static final class Code {
        // no node makes more than three of these, and each E has one more to return
        private static final int MOST_OF_E = 3 * MOST_NODES + 1;
        // nodes are counted in the place behind the last one, too, so that of the program is no method's
        static final int FIRST_OF_METHODS = MOST_OF_E + 1;

        int[] op = new int[2 * FIRST_OF_METHODS];
        int[] arg = new int[2 * FIRST_OF_METHODS];
        /** How many nodes begin just before this is done: those whose first part begins here begin here too. */
        int[] begins = new int[2 * FIRST_OF_METHODS];
        int at = FIRST_OF_METHODS;
        private int limit;

        void open(int start) {
            at = start;
            limit = start + MOST_OF_E;
            if (limit >= op.length) {
                int room = Math.max(limit + 1, 2 * op.length);
                op = Arrays.copyOf(op, room);
                arg = Arrays.copyOf(arg, room);
                begins = Arrays.copyOf(begins, room);
            }
            begins[at] = 0;
        }

        void emit(int what, int with) {
            if (at < limit) {
                op[at] = what;
                arg[at] = with;
                at++;
                begins[at] = 0;
            }
        }

        void aim(int from, int to) {
            if (from < limit) {
                arg[from] = to;
            }
        }
    }

    /** All that was told: names, kinds, calls, layers, methods, and which methods fit a kind at a place. */
    private static final class World {
        private static final int[] FIRST_NAME = {0, MOST_KINDS, MOST_KINDS + MOST_CALLS, MOST_KINDS + MOST_CALLS + MOST_LAYERS};
        private static final int[] MOST_NAMES = {MOST_KINDS, MOST_CALLS, MOST_LAYERS, MOST_VARIABLES};
        private static final int ALL_NAMES = MOST_KINDS + MOST_CALLS + MOST_LAYERS + MOST_VARIABLES;

        final Kinds kinds = new Kinds();
        final Methods methods = new Methods();
        final Code code = new Code();
        final int[] sizes = new int[4];
        private final long[] nameHeads = new long[ALL_NAMES];
        private final long[] nameTails = new long[ALL_NAMES];
        final int[] places = new int[MOST_CALLS];
        final int[] join = new int[MOST_CALLS];
        final int[] way = new int[MOST_CALLS];
        /** Sets of methods are bits in two longs: method 1 is bit 0 of the first. */
        final long[] callFirst = new long[MOST_CALLS];
        final long[] callSecond = new long[MOST_CALLS];
        final long[] fitFirst = new long[MOST_PLACES * MOST_KINDS];
        final long[] fitSecond = new long[MOST_PLACES * MOST_KINDS];
        final int[] makeable = new int[MOST_KINDS];
        int makeableCount;
        int rowWay;
        /** Another number whenever what is told of calls may be another. */
        int version = 1;
        private final int[] kept = new int[5];

        World() {
            addName(KINDS, Signs.packed("Any"), 0);
            addName(KINDS, Signs.packed("Int"), 0);
            addName(KINDS, Signs.packed("Fault"), 0);
            kinds.make(ANY_KIND, true);
            kinds.addParent(ANY_KIND);
            kinds.make(INT_KIND, false);
            kinds.make(FAULT_KIND, false);
            takeStock();
        }

        boolean isKind(int k) {
            return k >= 0 && k < sizes[KINDS];
        }

        /** The number of the latest of that name, or -1. */
        int find(int sort, long head, long tail) {
            for (int i = sizes[sort] - 1; i >= 0; i--) {
                int at = FIRST_NAME[sort] + i;
                if (nameHeads[at] == head && nameTails[at] == tail) {
                    return i;
                }
            }
            return -1;
        }

        boolean isTold(long head, long tail) {
            return find(KINDS, head, tail) >= 0 || find(CALLS, head, tail) >= 0 || find(LAYERS, head, tail) >= 0;
        }

        boolean isFull(int sort) {
            return sizes[sort] >= MOST_NAMES[sort];
        }

        void addName(int sort, long head, long tail) {
            if (!isFull(sort)) {
                int at = FIRST_NAME[sort] + sizes[sort];
                nameHeads[at] = head;
                nameTails[at] = tail;
                sizes[sort]++;
            }
        }

        void beginAnew() {
            sizes[KINDS] = FIRST_KINDS;
            sizes[CALLS] = 0;
            sizes[LAYERS] = 0;
            methods.told = 0;
            code.at = Code.FIRST_OF_METHODS;
            takeStock();
        }

        /** A wrong text changes nothing: what is told only grows, so the sizes are enough to go back to. */
        void keep() {
            System.arraycopy(sizes, 0, kept, 0, VARIABLES);
            kept[3] = methods.told;
            kept[4] = code.at;
        }

        void goBack() {
            System.arraycopy(kept, 0, sizes, 0, VARIABLES);
            methods.told = kept[3];
            code.at = kept[4];
        }

        void takeStock() {
            version++;
            makeableCount = 0;
            for (int k = 0; k < sizes[KINDS]; k++) {
                if (!kinds.bare[k]) {
                    makeable[makeableCount] = k;
                    makeableCount++;
                }
            }
            Arrays.fill(callFirst, 0L);
            Arrays.fill(callSecond, 0L);
            Arrays.fill(fitFirst, 0L);
            Arrays.fill(fitSecond, 0L);
            for (int m = 1; m <= methods.told; m++) {
                if (methods.isThere(m)) {
                    takeStockOf(m);
                }
            }
        }

        private void takeStockOf(int m) {
            long first = m <= 64 ? 1L << (m - 1) : 0L;
            long second = m <= 64 ? 0L : 1L << (m - 65);
            int c = methods.call[m];
            callFirst[c] |= first;
            callSecond[c] |= second;
            for (int p = 0; p < places[c]; p++) {
                for (int k = 0; k < sizes[KINDS]; k++) {
                    if (kinds.isBelow(k, methods.kind[m * MOST_PLACES + p])) {
                        fitFirst[p * MOST_KINDS + k] |= first;
                        fitSecond[p * MOST_KINDS + k] |= second;
                    }
                }
            }
        }

        int methodsOf(int c) {
            return Long.bitCount(callFirst[c]) + Long.bitCount(callSecond[c]);
        }

        /** The LIST for these kinds, put into a row: how many methods it has. */
        int listFor(int c, int[] at, int[] into) {
            long first = callFirst[c];
            long second = callSecond[c];
            for (int p = 0; p < places[c]; p++) {
                first &= fitFirst[p * MOST_KINDS + at[p]];
                second &= fitSecond[p * MOST_KINDS + at[p]];
            }
            int found = 0;
            for (int half = 0; half < 2; half++) {
                long left = half == 0 ? first : second;
                for (int turn = 0; turn < 64 && left != 0 && found < into.length; turn++) {
                    into[found] = 64 * half + 1 + Long.numberOfTrailingZeros(left);
                    found++;
                    left &= left - 1;
                }
            }
            return found;
        }

        boolean fits(int m, int[] at) {
            int c = methods.call[m];
            for (int p = 0; p < places[c]; p++) {
                if (!kinds.isBelow(at[p], methods.kind[m * MOST_PLACES + p])) {
                    return false;
                }
            }
            return true;
        }
    }

    /** A text cut into signs, an END behind the last. */
    private static final class Signs {
        static final int END = 0;
        static final int BAD = 1;
        static final int NAME = 2;
        static final int NUMBER = 3;
        static final int OPEN = 4;
        static final int CLOSE = 5;
        static final int COMMA = 6;
        static final int SEMICOLON = 7;
        static final int COLON = 8;
        static final int PLUS = 9;
        static final int MINUS = 10;
        static final int STAR = 11;
        static final int SLASH = 12;
        static final int HASH = 13;
        static final int BECOMES = 14;
        static final int LESS = 15;
        static final int SAME = 16;
        static final int AT_MOST = 17;
        static final int KIND = 20;
        static final int BARE = 21;
        static final int CALL = 22;
        static final int LAYER = 23;
        static final int METHOD = 24;
        static final int AROUND = 25;
        static final int BEFORE = 26;
        static final int BEHIND = 27;
        static final int IN = 28;
        static final int IF = 29;
        static final int AND = 30;
        static final int OR = 31;
        static final int NOT = 32;
        static final int IS = 33;
        static final int BEST = 34;
        static final int LEAST = 38;
        static final int LEFT = 39;
        static final int NEAR = 41;
        static final int LET = 42;
        static final int THEN = 43;
        static final int ELSE = 44;
        static final int WITH = 45;
        static final int WITHOUT = 46;
        static final int DO = 47;
        static final int TRY = 48;
        static final int ON = 49;
        static final int FAIL = 50;
        static final int SHOW = 51;
        static final int NEXT = 52;

        // in the order of the numbers above, from KIND on
        private static final String WORDS =
            "kind bare call layer method around before behind in if and or not is best sum all any least left each near let then else with without do try on fail show next";
        // in the order of the numbers above, from OPEN on
        private static final String MARKS = "(),;:+-*/#=<";
        private static final int SHORTEST_WORD = 2;
        private static final int LONGEST_WORD = 7;
        private static final int LONGEST_NAME = 16;
        private static final int NAME_HEAD = 10;

        int[] type = new int[64];
        int[] place = new int[64];
        /** Of a number its value; of a name its first ten bytes, six bits each, and the six behind in tail. */
        long[] head = new long[64];
        long[] tail = new long[64];
        int size;

        void cut(byte[] text, int length) {
            int room = length + 2;
            if (room > type.length) {
                room = Math.max(room, 2 * type.length);
                type = new int[room];
                place = new int[room];
                head = new long[room];
                tail = new long[room];
            }
            size = 0;
            int at = 0;
            for (int turn = 0; turn < length && at < length; turn++) {
                at = cutOne(text, length, at);
            }
            put(END, length, 0L, 0L);
        }

        private void put(int what, int where, long first, long second) {
            if (size < type.length) {
                type[size] = what;
                place[size] = where;
                head[size] = first;
                tail[size] = second;
                size++;
            }
        }

        /** Cuts what is at that place: the place behind it, or the text's end behind what is no sign. */
        private int cutOne(byte[] text, int length, int at) {
            int b = text[at] & 255;
            if (b == 32 || b == 9 || b == 10 || b == 13) {
                return at + 1;
            }
            if (b == '$') {
                int behind = at;
                while (behind < length && text[behind] != 10) {
                    behind++;
                }
                return behind;
            }
            if (b >= '0' && b <= '9') {
                return cutNumber(text, length, at);
            }
            if (codeOf(b) > 0) {
                return cutName(text, length, at);
            }
            return cutMark(text, length, at);
        }

        private int cutNumber(byte[] text, int length, int at) {
            long value = 0;
            int behind = at;
            while (behind < length && text[behind] >= '0' && text[behind] <= '9') {
                value = Math.min(10 * value + (text[behind] - '0'), 1L << 40);
                behind++;
            }
            if (value > Integer.MAX_VALUE) {
                put(BAD, at, 0L, 0L);
                return length;
            }
            put(NUMBER, at, value, 0L);
            return behind;
        }

        private int cutName(byte[] text, int length, int at) {
            long first = 0;
            long second = 0;
            int behind = at;
            while (behind < length && codeOf(text[behind] & 255) > 0) {
                if (behind - at < NAME_HEAD) {
                    first = first << 6 | codeOf(text[behind] & 255);
                } else {
                    second = second << 6 | codeOf(text[behind] & 255);
                }
                behind++;
            }
            if (behind - at > LONGEST_NAME) {
                put(BAD, at, 0L, 0L);
                return length;
            }
            put(wordOrName(text, at, behind - at), at, first, second);
            return behind;
        }

        private int cutMark(byte[] text, int length, int at) {
            int which = MARKS.indexOf((char) (text[at] & 255));
            if (which < 0) {
                put(BAD, at, 0L, 0L);
                return length;
            }
            int what = OPEN + which;
            if ((what == BECOMES || what == LESS) && at + 1 < length && text[at + 1] == '=') {
                put(what == LESS ? AT_MOST : SAME, at, 0L, 0L);
                return at + 2;
            }
            put(what, at, 0L, 0L);
            return at + 1;
        }

        /** 1 to 63 for what may stand in a name, 0 for others. */
        private static int codeOf(int b) {
            if (b >= 'a' && b <= 'z') {
                return b - 'a' + 1;
            }
            if (b >= 'A' && b <= 'Z') {
                return b - 'A' + 27;
            }
            if (b >= '0' && b <= '9') {
                return b - '0' + 54;
            }
            return b == '_' ? 53 : 0;
        }

        static long packed(String shortName) {
            long bits = 0;
            for (int i = 0; i < shortName.length(); i++) {
                bits = bits << 6 | codeOf(shortName.charAt(i));
            }
            return bits;
        }

        private static int wordOrName(byte[] text, int at, int length) {
            if (length < SHORTEST_WORD || length > LONGEST_WORD) {
                return NAME;
            }
            int start = 0;
            int word = KIND;
            for (int i = 0; i <= WORDS.length(); i++) {
                if (i == WORDS.length() || WORDS.charAt(i) == ' ') {
                    if (i - start == length && isWord(text, at, start, length)) {
                        return word;
                    }
                    start = i + 1;
                    word++;
                }
            }
            return NAME;
        }

        private static boolean isWord(byte[] text, int at, int start, int length) {
            for (int i = 0; i < length; i++) {
                if (text[at + i] != WORDS.charAt(start + i)) {
                    return false;
                }
            }
            return true;
        }
    }

    /**
     * Reads texts and programs in one pass: it remembers the first sign that can't stand where it is and the first
     * that breaks a rule, and tells to the world what breaks none.
     */
    private static final class Reader {
        // no sign is of this type
        private static final int NEVER = -1;
        // column i of a truth table of six tests
        private static final long[] TRUTH = {0xAAAAAAAAAAAAAAAAL, 0xCCCCCCCCCCCCCCCCL, 0xF0F0F0F0F0F0F0F0L,
            0xFF00FF00FF00FF00L, 0xFFFF0000FFFF0000L, 0xFFFFFFFF00000000L};

        private final World world;
        private final Signs signs = new Signs();
        int reason;
        private int pos;
        private int badPlace;
        private int rulePlace;
        private int ruleReason;
        private boolean inMethod;
        private int ownCall;
        private int nodes;
        private int comparisons;
        private int termVariable;
        private long termNumber;

        Reader(World world) {
            this.world = world;
        }

        int readText(byte[] text, int length) {
            signs.cut(text, length);
            begin();
            world.keep();
            for (int turn = 0; turn < signs.size && badPlace < 0 && (turn == 0 || sign() != Signs.END); turn++) {
                switch (sign()) {
                    case Signs.KIND:
                        readKind();
                        break;
                    case Signs.CALL:
                        readCall();
                        break;
                    case Signs.LAYER:
                        readLayer();
                        break;
                    case Signs.METHOD:
                        readMethod();
                        break;
                    default:
                        take(NEVER);
                        break;
                }
            }
            if (isClean()) {
                world.takeStock();
            } else {
                world.goBack();
            }
            return verdict();
        }

        int readProgram(byte[] text, int length) {
            signs.cut(text, length);
            begin();
            int behind = world.code.at;
            inMethod = false;
            ownCall = -1;
            world.sizes[VARIABLES] = 0;
            readBody(0);
            if (sign() != Signs.END) {
                take(NEVER);
            }
            world.code.at = behind;
            return verdict();
        }

        private void begin() {
            pos = 0;
            badPlace = -1;
            rulePlace = -1;
            ruleReason = 0;
        }

        private boolean isClean() {
            return badPlace < 0 && ruleReason == 0;
        }

        private int verdict() {
            if (badPlace >= 0) {
                reason = 1;
                return badPlace;
            }
            reason = ruleReason;
            return rulePlace;
        }

        private int sign() {
            return signs.type[pos];
        }

        /** Takes a sign that must stand here; after one that can't, only the END is left to read. */
        private void take(int wanted) {
            if (signs.type[pos] == wanted) {
                pos++;
            } else {
                if (badPlace < 0) {
                    badPlace = signs.place[pos];
                }
                pos = signs.size - 1;
            }
        }

        private void breakRule(int rule, int at) {
            int where = signs.place[at];
            if (ruleReason == 0 || where < rulePlace || where == rulePlace && rule < ruleReason) {
                rulePlace = where;
                ruleReason = rule;
            }
        }

        private int takeNewName(int sort) {
            int name = pos;
            take(Signs.NAME);
            if (world.isTold(signs.head[name], signs.tail[name])) {
                breakRule(2, name);
            }
            if (world.isFull(sort)) {
                breakRule(7, name);
            }
            return name;
        }

        private int takeKnownName(int sort) {
            int name = pos;
            take(Signs.NAME);
            int number = world.find(sort, signs.head[name], signs.tail[name]);
            if (number < 0) {
                breakRule(3, name);
            }
            return number;
        }

        private void readKind() {
            take(Signs.KIND);
            int name = takeNewName(KINDS);
            Kinds kinds = world.kinds;
            kinds.parentCount = 0;
            boolean more = sign() == Signs.LESS;
            for (int turn = 0; turn < signs.size && more; turn++) {
                take(sign());
                int at = pos;
                int parent = takeKnownName(KINDS);
                if (kinds.isParent(parent)) {
                    breakRule(5, at);
                } else if (parent >= 0) {
                    kinds.addParent(parent);
                }
                more = sign() == Signs.COMMA;
            }
            boolean isBare = sign() == Signs.BARE;
            if (isBare) {
                take(Signs.BARE);
            }
            take(Signs.SEMICOLON);
            if (isClean()) {
                if (kinds.parentCount == 0) {
                    kinds.addParent(ANY_KIND);
                }
                if (kinds.make(world.sizes[KINDS], isBare)) {
                    world.addName(KINDS, signs.head[name], signs.tail[name]);
                } else {
                    breakRule(5, name);
                }
            }
        }

        private void readCall() {
            take(Signs.CALL);
            int name = takeNewName(CALLS);
            take(Signs.OPEN);
            int number = pos;
            take(Signs.NUMBER);
            if (signs.head[number] < 1 || signs.head[number] > MOST_PLACES) {
                breakRule(4, number);
            }
            take(Signs.CLOSE);
            int join = sign() - Signs.BEST;
            take(sign() >= Signs.BEST && sign() <= Signs.LEAST ? sign() : NEVER);
            int way = sign() - Signs.LEFT;
            take(sign() >= Signs.LEFT && sign() <= Signs.NEAR ? sign() : NEVER);
            take(Signs.SEMICOLON);
            if (isClean()) {
                int c = world.sizes[CALLS];
                world.places[c] = (int) signs.head[number];
                world.join[c] = join;
                world.way[c] = way;
                world.addName(CALLS, signs.head[name], signs.tail[name]);
            }
        }

        private void readLayer() {
            take(Signs.LAYER);
            int name = takeNewName(LAYERS);
            take(Signs.SEMICOLON);
            if (isClean()) {
                world.addName(LAYERS, signs.head[name], signs.tail[name]);
            }
        }

        private void readMethod() {
            Methods methods = world.methods;
            int m = methods.told + 1;
            take(Signs.METHOD);
            int name = pos;
            ownCall = takeKnownName(CALLS);
            inMethod = true;
            if (methods.told >= MOST_METHODS) {
                breakRule(7, name);
            }
            methods.open(m, ownCall);
            readSpecs(m);
            if (sign() >= Signs.AROUND && sign() <= Signs.BEHIND) {
                methods.role[m] = AROUND_ROLE + sign() - Signs.AROUND;
                take(sign());
            }
            if (sign() == Signs.IN) {
                take(Signs.IN);
                methods.layer[m] = takeKnownName(LAYERS);
            }
            if (sign() == Signs.IF) {
                take(Signs.IF);
                comparisons = 0;
                methods.truthTable[m] = readTest(m, 0);
            }
            take(Signs.BECOMES);
            methods.start[m] = world.code.at;
            readBody(world.code.at);
            take(Signs.SEMICOLON);
            if (isClean()) {
                if (methods.hasTwin(m)) {
                    breakRule(2, name);
                } else {
                    methods.told++;
                }
            }
        }

        private void readSpecs(int m) {
            int wanted = ownCall < 0 ? MOST_PLACES : world.places[ownCall];
            world.sizes[VARIABLES] = 0;
            take(Signs.OPEN);
            boolean more = true;
            int p = 0;
            for (int turn = 0; turn < signs.size && more; turn++) {
                if (p == wanted) {
                    breakRule(4, pos);
                }
                readSpec(m, p < wanted ? p : -1);
                p++;
                more = sign() == Signs.COMMA;
                if (more) {
                    take(Signs.COMMA);
                }
            }
            if (p < wanted && ownCall >= 0) {
                breakRule(4, pos);
            }
            take(Signs.CLOSE);
        }

        // a SPEC that is one too many is read, but has no place (p is -1) to be put
        private void readSpec(int m, int p) {
            int name = pos;
            take(Signs.NAME);
            if (world.find(VARIABLES, signs.head[name], signs.tail[name]) >= 0) {
                breakRule(2, name);
            }
            if (p >= 0) {
                world.addName(VARIABLES, signs.head[name], signs.tail[name]);
            }
            if (sign() == Signs.COLON) {
                take(Signs.COLON);
                int kind = takeKnownName(KINDS);
                if (p >= 0 && kind >= 0) {
                    world.methods.kind[m * MOST_PLACES + p] = kind;
                }
            }
            if (sign() == Signs.SAME) {
                take(Signs.SAME);
                int number = takeNumber();
                if (p >= 0) {
                    world.methods.hasEqual[m * MOST_PLACES + p] = true;
                    world.methods.equal[m * MOST_PLACES + p] = number;
                }
            }
        }

        private int takeNumber() {
            boolean less = sign() == Signs.MINUS;
            if (less) {
                take(Signs.MINUS);
            }
            int number = (int) signs.head[pos];
            take(Signs.NUMBER);
            return less ? -number : number;
        }

        private long readTest(int m, int open) {
            long any = 0L;
            boolean more = true;
            for (int turn = 0; turn < signs.size && more; turn++) {
                long all = -1L;
                boolean both = true;
                for (int inner = 0; inner < signs.size && both; inner++) {
                    all &= readOneOfTest(m, open + 1);
                    both = sign() == Signs.AND;
                    if (both) {
                        take(Signs.AND);
                    }
                }
                any |= all;
                more = sign() == Signs.OR;
                if (more) {
                    take(Signs.OR);
                }
            }
            return any;
        }

        private long readOneOfTest(int m, int open) {
            if (open > MOST_OPEN) {
                take(NEVER);
                return 0L;
            }
            if (sign() == Signs.NOT) {
                take(Signs.NOT);
                return ~readOneOfTest(m, open + 1);
            }
            if (sign() == Signs.OPEN) {
                take(Signs.OPEN);
                long inner = readTest(m, open);
                take(Signs.CLOSE);
                return inner;
            }
            return TRUTH[readComparison(m)];
        }

        private int readComparison(int m) {
            comparisons++;
            if (comparisons > MOST_TESTS) {
                breakRule(7, pos);
            }
            if (sign() == Signs.NAME && signs.type[pos + 1] == Signs.IS) {
                int variable = takeKnownName(VARIABLES);
                take(Signs.IS);
                return world.methods.addTest(m, IS_TEST, variable + 1, Math.max(0, takeKnownName(KINDS)), 0L);
            }
            readTerm();
            int left = termVariable;
            long leftNumber = termNumber;
            int how = sign();
            take(how == Signs.LESS || how == Signs.AT_MOST || how == Signs.SAME ? how : NEVER);
            readTerm();
            long bound = termNumber - leftNumber - (how == Signs.LESS ? 1 : 0);
            return world.methods.addTest(m, how == Signs.SAME ? EQUAL_TEST : AT_MOST_TEST, left, termVariable, bound);
        }

        private void readTerm() {
            termVariable = 0;
            termNumber = 0;
            if (sign() != Signs.NAME) {
                termNumber = takeNumber();
                return;
            }
            termVariable = takeKnownName(VARIABLES) + 1;
            if (sign() == Signs.PLUS || sign() == Signs.MINUS) {
                int factor = sign() == Signs.PLUS ? 1 : -1;
                take(sign());
                termNumber = factor * signs.head[pos];
                take(Signs.NUMBER);
            }
        }

        private void readBody(int start) {
            world.code.open(start);
            nodes = 0;
            readE(1);
            world.code.emit(OP_RETURN, 0);
        }

        /** A node whose evaluation begins where the code stands at from. */
        private void addNode(int at, int from) {
            nodes++;
            if (nodes > MOST_NODES) {
                breakRule(7, at);
            }
            world.code.begins[from]++;
        }

        private void readE(int open) {
            if (open > MOST_OPEN) {
                take(NEVER);
                return;
            }
            switch (sign()) {
                case Signs.LET:
                    readLet(open);
                    break;
                case Signs.IF:
                    readIf(open);
                    break;
                case Signs.WITH:
                case Signs.WITHOUT:
                    readWith(open);
                    break;
                case Signs.TRY:
                    readTry(open);
                    break;
                case Signs.FAIL:
                case Signs.SHOW:
                    int op = sign() == Signs.FAIL ? OP_FAIL : OP_SHOW;
                    addNode(pos, world.code.at);
                    take(sign());
                    readE(open + 1);
                    world.code.emit(op, 0);
                    break;
                default:
                    readCompared(open);
                    break;
            }
        }

        private void readLet(int open) {
            addNode(pos, world.code.at);
            take(Signs.LET);
            int name = pos;
            take(Signs.NAME);
            take(Signs.BECOMES);
            readE(open + 1);
            take(Signs.THEN);
            readWithVariable(name, open);
        }

        private void readWithVariable(int name, int open) {
            int slot = world.sizes[VARIABLES];
            world.code.emit(OP_STORE, slot);
            world.addName(VARIABLES, signs.head[name], signs.tail[name]);
            readE(open + 1);
            world.sizes[VARIABLES] = slot;
        }

        private void readIf(int open) {
            Code code = world.code;
            addNode(pos, code.at);
            take(Signs.IF);
            readE(open + 1);
            int toElse = code.at;
            code.emit(OP_BRANCH, 0);
            take(Signs.THEN);
            readE(open + 1);
            int toEnd = code.at;
            code.emit(OP_JUMP, 0);
            code.aim(toElse, code.at);
            take(Signs.ELSE);
            readE(open + 1);
            code.aim(toEnd, code.at);
        }

        private void readWith(int open) {
            int op = sign() == Signs.WITH ? OP_WITH : OP_WITHOUT;
            addNode(pos, world.code.at);
            take(sign());
            world.code.emit(op, takeKnownName(LAYERS));
            take(Signs.DO);
            readE(open + 1);
            world.code.emit(OP_LAYERS_BACK, 0);
        }

        private void readTry(int open) {
            Code code = world.code;
            addNode(pos, code.at);
            take(Signs.TRY);
            int toDo = code.at;
            code.emit(OP_TRY, 0);
            readE(open + 1);
            int toEnd = code.at;
            code.emit(OP_TRIED, 0);
            code.aim(toDo, code.at);
            take(Signs.ON);
            int name = pos;
            take(Signs.NAME);
            take(Signs.DO);
            readWithVariable(name, open);
            code.aim(toEnd, code.at);
        }

        private void readCompared(int open) {
            int from = world.code.at;
            readSum(open);
            int how = sign();
            if (how == Signs.IS) {
                addNode(pos, from);
                take(Signs.IS);
                world.code.emit(OP_IS, takeKnownName(KINDS));
            } else if (how == Signs.LESS || how == Signs.AT_MOST || how == Signs.SAME) {
                addNode(pos, from);
                take(how);
                readSum(open);
                world.code.emit(how == Signs.LESS ? OP_LESS : how == Signs.AT_MOST ? OP_AT_MOST : OP_SAME, 0);
            }
        }

        private void readSum(int open) {
            int sumFrom = world.code.at;
            int pending = NEVER;
            boolean more = true;
            for (int turn = 0; turn < signs.size && more; turn++) {
                readProduct(open);
                if (pending != NEVER) {
                    world.code.emit(pending == Signs.PLUS ? OP_ADD : OP_TAKE_OFF, 0);
                }
                pending = sign();
                more = pending == Signs.PLUS || pending == Signs.MINUS;
                if (more) {
                    addNode(pos, sumFrom);
                    take(pending);
                }
            }
        }

        private void readProduct(int open) {
            int from = world.code.at;
            int pending = NEVER;
            boolean more = true;
            for (int turn = 0; turn < signs.size && more; turn++) {
                readP(open + 1);
                if (pending != NEVER) {
                    world.code.emit(pending == Signs.STAR ? OP_TIMES : OP_DIVIDE, 0);
                }
                pending = sign();
                more = pending == Signs.STAR || pending == Signs.SLASH;
                if (more) {
                    addNode(pos, from);
                    take(pending);
                }
            }
        }

        private void readP(int open) {
            if (open > MOST_OPEN) {
                take(NEVER);
                return;
            }
            switch (sign()) {
                case Signs.MINUS:
                case Signs.NUMBER:
                    addNode(pos, world.code.at);
                    world.code.emit(OP_NUMBER, takeNumber());
                    break;
                case Signs.NAME:
                    readNamed(open);
                    break;
                case Signs.NEXT:
                    readNext(open);
                    break;
                case Signs.HASH:
                    addNode(pos, world.code.at);
                    take(Signs.HASH);
                    readP(open + 1);
                    world.code.emit(OP_NUMBER_OF, 0);
                    break;
                case Signs.OPEN:
                    take(Signs.OPEN);
                    readE(open + 1);
                    take(Signs.CLOSE);
                    break;
                default:
                    take(NEVER);
                    break;
            }
        }

        private void readNamed(int open) {
            int name = pos;
            long head = signs.head[name];
            long tail = signs.tail[name];
            addNode(name, world.code.at);
            take(Signs.NAME);
            if (sign() != Signs.OPEN) {
                int slot = world.find(VARIABLES, head, tail);
                if (slot < 0) {
                    breakRule(3, name);
                }
                world.code.emit(OP_VARIABLE, slot);
                return;
            }
            int kind = world.find(KINDS, head, tail);
            int itsCall = world.find(CALLS, head, tail);
            if (kind >= 0) {
                if (world.kinds.bare[kind]) {
                    breakRule(6, name);
                }
                readArguments(1, open);
                world.code.emit(OP_MAKE, kind);
            } else {
                if (itsCall < 0) {
                    breakRule(3, name);
                }
                readArguments(itsCall < 0 ? -1 : world.places[itsCall], open);
                world.code.emit(OP_CALL, itsCall);
            }
        }

        private void readNext(int open) {
            if (!inMethod) {
                breakRule(3, pos);
            }
            addNode(pos, world.code.at);
            take(Signs.NEXT);
            if (sign() == Signs.OPEN) {
                readArguments(ownCall < 0 ? -1 : world.places[ownCall], open);
                world.code.emit(OP_NEXT_WITH, 0);
            } else {
                world.code.emit(OP_NEXT, 0);
            }
        }

        /** Reads ( E {, E} ), of which there should be as many as wanted, if that is not -1. */
        private void readArguments(int wanted, int open) {
            take(Signs.OPEN);
            boolean more = true;
            int found = 0;
            for (int turn = 0; turn < signs.size && more; turn++) {
                if (found == wanted) {
                    breakRule(4, pos);
                }
                readE(open + 1);
                found++;
                more = sign() == Signs.COMMA;
                if (more) {
                    take(Signs.COMMA);
                }
            }
            if (found < wanted) {
                breakRule(4, pos);
            }
            take(Signs.CLOSE);
        }
    }

    /**
     * All numbers that arguments may have, cut by what methods ask of them. A cut is: one variable less another one is
     * at most a bound; so each cell is a set of bounds on differences, which integers fill just if it is not against
     * itself.
     */
    private static final class Space {
        private static final int MOST_ASKED = 2 * (MOST_TESTS + MOST_PLACES);
        private static final int MOST_CUTS = 2 * MOST_ASKED;
        private static final int SIDE = MOST_PLACES + 1;
        private static final int CELL = SIDE * SIDE;
        private static final int SIDES = 2;
        static final int MOST_CELLS = 1000000;
        private static final int MOST_TURNS = 1000000;

        private final World world;
        private final int[] firstCut = new int[MOST_ASKED];
        private final boolean[] hasTwoCuts = new boolean[MOST_ASKED];
        private int asked;
        private final int[] left = new int[MOST_CUTS];
        private final int[] right = new int[MOST_CUTS];
        private final long[] bound = new long[MOST_CUTS];
        private int cuts;
        private final int[] side = new int[MOST_CUTS + 1];
        private final long[] limits = new long[(MOST_CUTS + 1) * CELL];
        private int level;
        private long holding;

        Space(World world) {
            this.world = world;
            for (int i = 0; i < SIDE; i++) {
                for (int j = 0; j < SIDE; j++) {
                    long most = (i == 0 ? 0L : Integer.MAX_VALUE) - (j == 0 ? 0L : Integer.MIN_VALUE);
                    limits[i * SIDE + j] = i == j ? 0L : most;
                }
            }
        }

        void empty() {
            asked = 0;
            cuts = 0;
        }

        /** Cuts by what a method asks, its arguments being of these kinds: the number of the first thing asked. */
        int cutBy(int m, int[] at) {
            Methods methods = world.methods;
            int first = asked;
            for (int p = 0; p < MOST_PLACES; p++) {
                if (methods.hasEqual[m * MOST_PLACES + p]) {
                    addCut(EQUAL_TEST, p + 1, 0, methods.equal[m * MOST_PLACES + p]);
                }
            }
            for (int i = m * MOST_TESTS; i < m * MOST_TESTS + methods.tests[m]; i++) {
                if (methods.testSort[i] == IS_TEST) {
                    boolean is = world.kinds.isBelow(at[methods.testLeft[i] - 1], methods.testRight[i]);
                    addCut(AT_MOST_TEST, 0, 0, is ? 0L : -1L);
                } else {
                    addCut(methods.testSort[i], methods.testLeft[i], methods.testRight[i], methods.testBound[i]);
                }
            }
            return first;
        }

        private void addCut(int sort, int one, int other, long most) {
            if (asked >= MOST_ASKED || cuts + 2 > MOST_CUTS) {
                return;
            }
            firstCut[asked] = cuts;
            hasTwoCuts[asked] = sort == EQUAL_TEST;
            asked++;
            left[cuts] = one;
            right[cuts] = other;
            bound[cuts] = most;
            cuts++;
            if (sort == EQUAL_TEST) {
                left[cuts] = other;
                right[cuts] = one;
                bound[cuts] = -most;
                cuts++;
            }
        }

        void begin() {
            level = 0;
            side[0] = 0;
            holding = 0L;
        }

        /** Goes to the next cell that has numbers: whether there is one. */
        boolean toNextCell() {
            for (int turn = 0; turn < MOST_TURNS && level >= 0; turn++) {
                if (level == cuts) {
                    level--;
                    return true;
                }
                int which = side[level];
                side[level]++;
                if (which == SIDES) {
                    level--;
                } else if (goToSide(which)) {
                    level++;
                    side[level] = 0;
                }
            }
            return false;
        }

        /** Goes to the side of a cut where it holds (0), or to the other one: whether numbers are left there. */
        private boolean goToSide(int which) {
            long bit = 1L << level;
            int i = left[level];
            int j = right[level];
            long most = bound[level];
            if (which == 0) {
                holding |= bit;
            } else {
                holding &= ~bit;
                i = right[level];
                j = left[level];
                most = -most - 1;
            }
            int from = level * CELL;
            int to = from + CELL;
            if (limits[from + j * SIDE + i] + most < 0) {
                return false;
            }
            for (int a = 0; a < SIDE; a++) {
                for (int b = 0; b < SIDE; b++) {
                    long known = limits[from + a * SIDE + b];
                    long through = limits[from + a * SIDE + i] + most + limits[from + j * SIDE + b];
                    limits[to + a * SIDE + b] = through < known ? through : known;
                }
            }
            return true;
        }

        /** Whether a method takes the numbers of this cell; first is what cutBy answered for it. */
        boolean isTakenBy(int m, int first) {
            Methods methods = world.methods;
            int next = first;
            for (int p = 0; p < MOST_PLACES; p++) {
                if (methods.hasEqual[m * MOST_PLACES + p]) {
                    if (!holds(next)) {
                        return false;
                    }
                    next++;
                }
            }
            int index = 0;
            for (int i = 0; i < methods.tests[m]; i++) {
                if (holds(next + i)) {
                    index |= 1 << i;
                }
            }
            return (methods.truthTable[m] >>> index & 1L) != 0;
        }

        private boolean holds(int what) {
            if (what >= asked) {
                return false;
            }
            long both = holding >>> firstCut[what];
            return hasTwoCuts[what] ? (both & 3L) == 3L : (both & 1L) == 1L;
        }
    }

    /** Which of two methods that fit is nearer. */
    private static final class Nearness {
        private final World world;
        private final Space space;
        // a square of pairs of methods: what a pair and its is-tests settle is worked out once, both are kept in an int
        private int side = 8;
        private int[] settled = new int[side * side];

        Nearness(World world) {
            this.world = world;
            space = new Space(world);
        }

        void forgetAll() {
            Arrays.fill(settled, 0);
        }

        /** -1, 1 or 0: the first, the second or none is nearer for these kinds, which both fit. */
        int compare(int m, int n, int[] at) {
            Methods methods = world.methods;
            if (methods.sameKinds(m, n)) {
                return m < n ? whoAsksMore(m, n, at) : -whoAsksMore(n, m, at);
            }
            int c = methods.call[m];
            int mBelow = 1;
            int nBelow = 1;
            int sum = 0;
            for (int p = 0; p < world.places[c]; p++) {
                int mKind = methods.kind[m * MOST_PLACES + p];
                int nKind = methods.kind[n * MOST_PLACES + p];
                int ahead = world.kinds.spotInRow(world.rowWay, at[p], mKind)
                        - world.kinds.spotInRow(world.rowWay, at[p], nKind);
                if (world.way[c] == WAY_LEFT && ahead != 0) {
                    return ahead < 0 ? -1 : 1;
                }
                mBelow = world.kinds.isBelow(mKind, nKind) ? mBelow : 0;
                nBelow = world.kinds.isBelow(nKind, mKind) ? nBelow : 0;
                sum += ahead;
            }
            return world.way[c] == WAY_EACH ? nBelow - mBelow : Integer.compare(sum, 0);
        }

        private int whoAsksMore(int m, int n, int[] at) {
            if (world.methods.asked(m) + world.methods.asked(n) == 0) {
                return 0;
            }
            makeRoomForAll();
            int spot = m * side + n;
            // the bit in front tells it from a spot where nothing is kept
            int tests = (1 << MOST_TESTS | isTests(m, at)) << MOST_TESTS | isTests(n, at);
            if (settled[spot] >>> 2 == tests) {
                return (settled[spot] & 3) - 1;
            }
            space.empty();
            int mFirst = space.cutBy(m, at);
            int nFirst = space.cutBy(n, at);
            boolean mAlone = false;
            boolean nAlone = false;
            space.begin();
            for (int cell = 0; cell < Space.MOST_CELLS && !(mAlone && nAlone) && space.toNextCell(); cell++) {
                boolean takenByM = space.isTakenBy(m, mFirst);
                boolean takenByN = space.isTakenBy(n, nFirst);
                mAlone = mAlone || takenByM && !takenByN;
                nAlone = nAlone || takenByN && !takenByM;
            }
            int answer = mAlone == nAlone ? 0 : nAlone ? -1 : 1;
            settled[spot] = tests << 2 | answer + 1;
            return answer;
        }

        private void makeRoomForAll() {
            if (world.methods.told >= side) {
                for (int turn = 0; turn < MOST_METHODS && world.methods.told >= side; turn++) {
                    side *= 2;
                }
                settled = new int[side * side];
            }
        }

        private int isTests(int m, int[] at) {
            Methods methods = world.methods;
            int bits = 0;
            for (int i = 0; i < methods.tests[m]; i++) {
                int test = m * MOST_TESTS + i;
                if (methods.testSort[test] == IS_TEST
                        && world.kinds.isBelow(at[methods.testLeft[test] - 1], methods.testRight[test])) {
                    bits |= 1 << i;
                }
            }
            return bits;
        }
    }

    /**
     * The lists of methods that fit, and what tables, pressed tables and trees of them cost. What is left of a call
     * when some places are known is the set of methods that still can fit: two such sets without methods that never
     * can fit are alike just if they are the same, and a place does not matter to a set if all of it fits each
     * makeable kind there. So none of these tables has to be made.
     */
    private static final class Lists {
        private static final int[] ORDERS = {0, 1, 2, 0, 2, 1, 1, 0, 2, 1, 2, 0, 2, 0, 1, 2, 1, 0};

        private final World world;
        private final int[] planned = new int[MOST_CALLS];
        private final long[] liveFirst = new long[MOST_CALLS];
        private final long[] liveSecond = new long[MOST_CALLS];
        private final long[] alwaysFirst = new long[MOST_CALLS * MOST_PLACES];
        private final long[] alwaysSecond = new long[MOST_CALLS * MOST_PLACES];
        private final int[] order = new int[MOST_CALLS];
        private final int[] nodes = new int[MOST_CALLS];
        private long[] setFirst = new long[64];
        private long[] setSecond = new long[64];
        private int[] setMark = new int[64];
        private int mark;
        private int setSize;

        Lists(World world) {
            this.world = world;
        }

        int countLists(int c) {
            plan(c);
            return countSets(c, 0, world.places[c]);
        }

        int countCells(int c) {
            int cells = 1;
            for (int p = 0; p < world.places[c]; p++) {
                cells *= world.makeableCount;
            }
            return cells;
        }

        int countPressed(int c) {
            plan(c);
            int cells = 1;
            for (int p = 0; p < world.places[c]; p++) {
                emptySet();
                for (int i = 0; i < world.makeableCount; i++) {
                    int at = p * MOST_KINDS + world.makeable[i];
                    makeRoomInSet();
                    addToSet(liveFirst[c] & world.fitFirst[at], liveSecond[c] & world.fitSecond[at]);
                }
                cells *= setSize;
            }
            return cells;
        }

        int countNodes(int c) {
            plan(c);
            return nodes[c];
        }

        /** How many looks it costs to choose for these kinds. */
        int looksFor(int c, int choosing, int[] at) {
            switch (choosing) {
                case 0:
                    return world.methodsOf(c);
                case 1:
                    return 1;
                case 2:
                    return world.places[c] + 1;
                default:
                    plan(c);
                    return looksInTree(c, at);
            }
        }

        private int looksInTree(int c, int[] at) {
            int looks = 1;
            long first = liveFirst[c];
            long second = liveSecond[c];
            for (int i = 0; i < world.places[c]; i++) {
                int p = ORDERS[order[c] + i];
                if (matters(c, p, first, second)) {
                    looks++;
                }
                first &= world.fitFirst[p * MOST_KINDS + at[p]];
                second &= world.fitSecond[p * MOST_KINDS + at[p]];
            }
            return looks;
        }

        private boolean matters(int c, int p, long first, long second) {
            int at = c * MOST_PLACES + p;
            return (first & ~alwaysFirst[at]) != 0 || (second & ~alwaysSecond[at]) != 0;
        }

        private void plan(int c) {
            if (planned[c] == world.version) {
                return;
            }
            planned[c] = world.version;
            findLive(c);
            nodes[c] = Integer.MAX_VALUE;
            for (int o = 0; o < ORDERS.length; o += MOST_PLACES) {
                if (isOrderOf(o, world.places[c])) {
                    int found = 0;
                    for (int asked = 0; asked < world.places[c]; asked++) {
                        found += countSets(c, o, asked);
                    }
                    if (found < nodes[c]) {
                        nodes[c] = found;
                        order[c] = o;
                    }
                }
            }
        }

        // of the orders of three places those of fewer are the ones that leave the others where they are
        private static boolean isOrderOf(int o, int places) {
            for (int i = places; i < MOST_PLACES; i++) {
                if (ORDERS[o + i] != i) {
                    return false;
                }
            }
            return true;
        }

        private void findLive(int c) {
            liveFirst[c] = world.callFirst[c];
            liveSecond[c] = world.callSecond[c];
            for (int p = 0; p < world.places[c]; p++) {
                long someFirst = 0L;
                long someSecond = 0L;
                long allFirst = -1L;
                long allSecond = -1L;
                for (int i = 0; i < world.makeableCount; i++) {
                    int at = p * MOST_KINDS + world.makeable[i];
                    someFirst |= world.fitFirst[at];
                    someSecond |= world.fitSecond[at];
                    allFirst &= world.fitFirst[at];
                    allSecond &= world.fitSecond[at];
                }
                liveFirst[c] &= someFirst;
                liveSecond[c] &= someSecond;
                alwaysFirst[c * MOST_PLACES + p] = allFirst;
                alwaysSecond[c * MOST_PLACES + p] = allSecond;
            }
        }

        /**
         * How many different sets are left behind the first places of an order that are asked; if a place is left to
         * ask, only those to which it matters.
         */
        private int countSets(int c, int o, int asked) {
            emptySet();
            int firstRow = asked > 0 ? world.makeableCount : 1;
            int secondRow = asked > 1 ? world.makeableCount : 1;
            int thirdRow = asked > 2 ? world.makeableCount : 1;
            for (int i = 0; i < firstRow; i++) {
                for (int j = 0; j < secondRow; j++) {
                    for (int k = 0; k < thirdRow; k++) {
                        long first = liveFirst[c];
                        long second = liveSecond[c];
                        for (int n = 0; n < asked; n++) {
                            int kind = world.makeable[n == 0 ? i : n == 1 ? j : k];
                            first &= world.fitFirst[ORDERS[o + n] * MOST_KINDS + kind];
                            second &= world.fitSecond[ORDERS[o + n] * MOST_KINDS + kind];
                        }
                        if (asked == world.places[c] || matters(c, ORDERS[o + asked], first, second)) {
                            makeRoomInSet();
                            addToSet(first, second);
                        }
                    }
                }
            }
            return setSize;
        }

        private void emptySet() {
            mark++;
            setSize = 0;
        }

        private void addToSet(long first, long second) {
            int spot = spotFor(first, second);
            if (setMark[spot] != mark) {
                setMark[spot] = mark;
                setFirst[spot] = first;
                setSecond[spot] = second;
                setSize++;
            }
        }

        // the room is a power of two and half of it at least is free, so the search ends
        private int spotFor(long first, long second) {
            int room = setMark.length;
            long mixed = first * 0x9E3779B97F4A7C15L + second * 0xC2B2AE3D27D4EB4FL;
            int spot = (int) (mixed >>> 40 ^ mixed >>> 17) & room - 1;
            for (int turn = 0; turn < room; turn++) {
                if (setMark[spot] != mark || setFirst[spot] == first && setSecond[spot] == second) {
                    return spot;
                }
                spot = spot + 1 & room - 1;
            }
            return spot;
        }

        private void makeRoomInSet() {
            if (2 * setSize < setMark.length) {
                return;
            }
            long[] oldFirst = setFirst;
            long[] oldSecond = setSecond;
            int[] oldMark = setMark;
            setFirst = new long[2 * oldMark.length];
            setSecond = new long[2 * oldMark.length];
            setMark = new int[2 * oldMark.length];
            for (int i = 0; i < oldMark.length; i++) {
                if (oldMark[i] == mark) {
                    int spot = spotFor(oldFirst[i], oldSecond[i]);
                    setMark[spot] = mark;
                    setFirst[spot] = oldFirst[i];
                    setSecond[spot] = oldSecond[i];
                }
            }
        }
    }

    /** Whether calls are whole. */
    private static final class Whole {
        private static final int MOST_ASKED = 8;
        private static final int MOST_ROWS = 200;

        private final World world;
        private final Nearness nearness;
        private final Space space;
        private final int[] judged = new int[MOST_CALLS];
        private final int[] answer = new int[MOST_CALLS];
        /** The kinds of the row for which a call was judged not to be whole; -1 where there is none. */
        final int[] kindAt = new int[MOST_CALLS * MOST_PLACES];
        private final int[] at = new int[MOST_PLACES];
        private final int[] fitting = new int[MOST_METHODS];
        private final int[] firstAsked = new int[MOST_METHODS];
        private int fittingCount;
        private final int[] applying = new int[MOST_METHODS];
        private int applyingCount;

        Whole(World world, Nearness nearness) {
            this.world = world;
            this.nearness = nearness;
            space = new Space(world);
        }

        int judge(int c) {
            if (judged[c] != world.version) {
                judged[c] = world.version;
                int rows = 1;
                for (int p = 0; p < world.places[c]; p++) {
                    rows *= world.makeableCount;
                }
                answer[c] = 0;
                int asking = 0;
                for (int row = 0; row < rows && answer[c] == 0; row++) {
                    goToRow(row, world.places[c]);
                    int asked = gatherFitting(c);
                    asking += asked > 0 ? 1 : 0;
                    boolean isPassedOver = asked > MOST_ASKED || asked > 0 && asking > MOST_ROWS;
                    answer[c] = isPassedOver ? -1 : judgeRow(c);
                }
                keepKinds(c);
            }
            return answer[c];
        }

        private void goToRow(int row, int places) {
            int left = row;
            for (int p = places - 1; p >= 0 && world.makeableCount > 0; p--) {
                at[p] = world.makeable[left % world.makeableCount];
                left /= world.makeableCount;
            }
        }

        private void keepKinds(int c) {
            for (int p = 0; p < MOST_PLACES; p++) {
                kindAt[c * MOST_PLACES + p] = answer[c] > 0 && p < world.places[c] ? at[p] : -1;
            }
        }

        /** Gathers the plain ones without layers that fit the row: how much they ask together. */
        private int gatherFitting(int c) {
            Methods methods = world.methods;
            int all = world.listFor(c, at, fitting);
            int asked = 0;
            fittingCount = 0;
            for (int i = 0; i < all; i++) {
                int m = fitting[i];
                if (methods.role[m] == PLAIN && methods.layer[m] < 0) {
                    fitting[fittingCount] = m;
                    fittingCount++;
                    asked += methods.asked(m);
                }
            }
            return asked;
        }

        private int judgeRow(int c) {
            space.empty();
            for (int i = 0; i < fittingCount; i++) {
                firstAsked[i] = space.cutBy(fitting[i], at);
            }
            int worst = 0;
            space.begin();
            for (int cell = 0; cell < Space.MOST_CELLS && space.toNextCell(); cell++) {
                applyingCount = 0;
                for (int i = 0; i < fittingCount; i++) {
                    if (space.isTakenBy(fitting[i], firstAsked[i])) {
                        applying[applyingCount] = fitting[i];
                        applyingCount++;
                    }
                }
                if (applyingCount == 0) {
                    return 1;
                }
                if (worst == 0 && world.join[c] == JOIN_BEST && !hasNearest()) {
                    worst = 2;
                }
            }
            return worst;
        }

        // nearer is an order, so just one has none nearer to it if one is nearer than all others; and the one that is
        // left when each is held against the best so far is the only one that can be it
        private boolean hasNearest() {
            int best = applying[0];
            for (int i = 1; i < applyingCount; i++) {
                if (nearness.compare(applying[i], best, at) < 0) {
                    best = applying[i];
                }
            }
            for (int i = 0; i < applyingCount; i++) {
                if (applying[i] != best && nearness.compare(best, applying[i], at) >= 0) {
                    return false;
                }
            }
            return true;
        }
    }

    /** Chooses the methods of a call and lays them in rows, which stay until the call has ended. */
    private static final class Chooser {
        private static final int ROW_ROOM = 128;
        private static final int TAKEN = -1;
        private static final int BITS_OF_KIND = 5;
        private static final int NOTES = 5;

        private final World world;
        private final Nearness nearness;
        private final Lists lists;
        int choosing;
        int looks;
        private final int[] rows = new int[(MOST_DEPTH + 2) * ROW_ROOM];
        private final int[] from = new int[(MOST_DEPTH + 2) * ROLES];
        private final int[] size = new int[(MOST_DEPTH + 2) * ROLES];
        private final boolean[] several = new boolean[(MOST_DEPTH + 2) * ROLES];
        // what the rows at each home were laid for (the methods tell the call, too): who chooses the same again finds them
        private final long[] notes = new long[(MOST_DEPTH + 2) * NOTES];
        private final int[] at = new int[MOST_PLACES];
        private final int[] applying = new int[MOST_METHODS];
        private int applyingCount;
        private long applyingFirst;
        private long applyingSecond;
        private final int[] group = new int[MOST_METHODS];
        private final int[] nearerOnes = new int[MOST_METHODS];

        Chooser(World world, Nearness nearness, Lists lists) {
            this.world = world;
            this.nearness = nearness;
            this.lists = lists;
        }

        int rowSize(int home, int role) {
            return size[home * ROLES + role];
        }

        boolean endsWithSeveral(int home, int role) {
            return several[home * ROLES + role];
        }

        int inRow(int home, int role, int i) {
            return rows[home * ROW_ROOM + from[home * ROLES + role] + i];
        }

        /** Lays the rows of a call at home: whether a plain method applies. */
        boolean choose(int c, long[] given, int home, long layers) {
            for (int p = 0; p < world.places[c]; p++) {
                at[p] = Machine.kindOf(given[p]);
            }
            looks += lists.looksFor(c, choosing, at);
            if (!gatherApplying(c, given, layers)) {
                return false;
            }
            if (isLaid(c, home, layers)) {
                return true;
            }
            int filled = 0;
            for (int role = 0; role < ROLES; role++) {
                int row = home * ROLES + role;
                from[row] = filled;
                several[row] = false;
                boolean isStrict = role == AROUND_ROLE || role == PLAIN && world.join[c] == JOIN_BEST;
                long left = layers;
                boolean more = true;
                for (int turn = 0; turn <= MOST_LAYERS && more; turn++) {
                    int layer = (int) (left & 15L) - 1;
                    int groupSize = gatherGroup(role, layer);
                    int laid = layGroup(groupSize, isStrict, home * ROW_ROOM + filled);
                    filled += laid;
                    several[row] = laid < groupSize;
                    more = layer >= 0 && !several[row];
                    left >>>= 4;
                }
                size[row] = filled - from[row];
            }
            return true;
        }

        private boolean isLaid(int c, int home, long layers) {
            long kinds = 0L;
            for (int p = 0; p < world.places[c]; p++) {
                kinds = kinds << BITS_OF_KIND | at[p];
            }
            int note = home * NOTES;
            boolean isSame = notes[note] == world.version && notes[note + 1] == kinds && notes[note + 2] == layers
                    && notes[note + 3] == applyingFirst && notes[note + 4] == applyingSecond;
            notes[note] = world.version;
            notes[note + 1] = kinds;
            notes[note + 2] = layers;
            notes[note + 3] = applyingFirst;
            notes[note + 4] = applyingSecond;
            return isSame;
        }

        private boolean gatherApplying(int c, long[] given, long layers) {
            int all = world.listFor(c, at, applying);
            boolean isPlain = false;
            applyingCount = 0;
            applyingFirst = 0L;
            applyingSecond = 0L;
            for (int i = 0; i < all; i++) {
                int m = applying[i];
                if (isOn(world.methods.layer[m], layers) && takes(m, given)) {
                    applying[applyingCount] = m;
                    applyingCount++;
                    applyingFirst |= m <= 64 ? 1L << (m - 1) : 0L;
                    applyingSecond |= m <= 64 ? 0L : 1L << (m - 65);
                    isPlain = isPlain || world.methods.role[m] == PLAIN;
                }
            }
            return isPlain;
        }

        private static boolean isOn(int layer, long layers) {
            if (layer < 0) {
                return true;
            }
            for (int shift = 0; shift < 4 * MOST_LAYERS; shift += 4) {
                if ((layers >>> shift & 15L) == layer + 1) {
                    return true;
                }
            }
            return false;
        }

        private boolean takes(int m, long[] given) {
            Methods methods = world.methods;
            for (int p = 0; p < MOST_PLACES; p++) {
                if (methods.hasEqual[m * MOST_PLACES + p] && methods.equal[m * MOST_PLACES + p] != (int) given[p]) {
                    return false;
                }
            }
            int index = 0;
            for (int i = 0; i < methods.tests[m]; i++) {
                if (holds(m * MOST_TESTS + i, given)) {
                    index |= 1 << i;
                }
            }
            return (methods.truthTable[m] >>> index & 1L) != 0;
        }

        private boolean holds(int test, long[] given) {
            Methods methods = world.methods;
            int left = methods.testLeft[test];
            int right = methods.testRight[test];
            if (methods.testSort[test] == IS_TEST) {
                return world.kinds.isBelow(at[left - 1], right);
            }
            long apart = (left == 0 ? 0L : (int) given[left - 1]) - (right == 0 ? 0L : (int) given[right - 1]);
            return methods.testSort[test] == EQUAL_TEST ? apart == methods.testBound[test]
                    : apart <= methods.testBound[test];
        }

        private int gatherGroup(int role, int layer) {
            int found = 0;
            for (int i = 0; i < applyingCount; i++) {
                int m = applying[i];
                if (world.methods.role[m] == role && world.methods.layer[m] == layer) {
                    group[found] = m;
                    found++;
                }
            }
            return found;
        }

        /** Lays the group in a row, the nearest first: how many could be, before there are several. */
        private int layGroup(int groupSize, boolean isStrict, int start) {
            for (int i = 0; i < groupSize; i++) {
                nearerOnes[i] = 0;
                for (int j = 0; j < i; j++) {
                    int nearer = nearness.compare(group[j], group[i], at);
                    nearerOnes[i] += nearer < 0 ? 1 : 0;
                    nearerOnes[j] += nearer > 0 ? 1 : 0;
                }
            }
            for (int laid = 0; laid < groupSize; laid++) {
                int next = pickNext(groupSize, isStrict);
                if (next < 0) {
                    return laid;
                }
                rows[start + laid] = group[next];
                nearerOnes[next] = TAKEN;
                for (int i = 0; i < groupSize; i++) {
                    if (nearerOnes[i] > 0 && nearness.compare(group[next], group[i], at) < 0) {
                        nearerOnes[i]--;
                    }
                }
            }
            return groupSize;
        }

        private int pickNext(int groupSize, boolean isStrict) {
            int free = 0;
            int firstFree = -1;
            int firstLeft = -1;
            for (int i = groupSize - 1; i >= 0; i--) {
                if (nearerOnes[i] != TAKEN) {
                    firstLeft = i;
                }
                if (nearerOnes[i] == 0) {
                    firstFree = i;
                    free++;
                }
            }
            if (isStrict) {
                return free == 1 ? firstFree : -1;
            }
            return free > 0 ? firstFree : firstLeft;
        }
    }

    /**
     * Runs the program. A value is a long: its kind in the upper half, its number in the lower one. The layers that
     * are on are a long too, four bits each, the one put on last in the lowest.
     */
    private static final class Machine {
        private static final int MOST_TURNS = 10000000;
        private static final int STACK_ROOM = 2048;
        // a try keeps on the stack: the layers, the depth, where to go on, and the try around it
        private static final int TRY_ROOM = 4;

        // what a frame keeps of a method that runs, and of the INSIDE that runs it, if one does
        private static final int BACK = 0;
        private static final int METHOD = 1;
        private static final int HOME = 2;
        private static final int SPOT = 3;
        private static final int IS_INSIDE = 4;
        private static final int PHASE = 5;
        private static final int TURN = 6;
        private static final int JOINED = 7;
        private static final int GIVEN = 8;
        private static final int SLOTS = 16;
        private static final int FRAME_ROOM = SLOTS + MOST_VARIABLES;

        private final World world;
        final Chooser chooser;
        private final long[] stack = new long[STACK_ROOM];
        private final long[] frames = new long[(MOST_DEPTH + 2) * FRAME_ROOM];
        private final long[] given = new long[MOST_PLACES];
        private int top;
        private int depth;
        private int goOn;
        private int lastTry;
        private int fault;
        private long layers;
        int ended = -1;
        boolean hasValue;
        long value;
        int steps;
        final int[] shownNumbers = new int[MOST_SHOWN];
        int shownCount;
        final int[] begunMethods = new int[MOST_RAN];
        int began;

        Machine(World world, Chooser chooser) {
            this.world = world;
            this.chooser = chooser;
        }

        static int kindOf(long someValue) {
            return (int) (someValue >> 32);
        }

        private static long valueOf(int kind, int number) {
            return (long) kind << 32 | number & 0xFFFFFFFFL;
        }

        void perform(int fuel, int choosing) {
            beginRun(choosing);
            Code code = world.code;
            for (int turn = 0; turn < MOST_TURNS && ended < 0; turn++) {
                int now = goOn;
                if (now < 0 || now >= code.op.length || steps + code.begins[now] > fuel) {
                    steps = fuel;
                    finish(4, false, 0L);
                    return;
                }
                steps += code.begins[now];
                goOn = now + 1;
                int op = code.op[now];
                int arg = code.arg[now];
                switch (op) {
                    case OP_CALL:
                        takeGiven(world.places[arg]);
                        beginCall(chooser.choose(arg, given, depth + 1, layers));
                        break;
                    case OP_NEXT:
                    case OP_NEXT_WITH:
                        goToNext(op == OP_NEXT_WITH);
                        break;
                    case OP_RETURN:
                        endMethod(pop());
                        break;
                    case OP_FAIL:
                        failWith(pop());
                        break;
                    default:
                        obey(op, arg);
                        break;
                }
                if (fault != 0) {
                    failWith(valueOf(FAULT_KIND, fault));
                }
            }
        }

        private void beginRun(int choosing) {
            chooser.choosing = choosing;
            chooser.looks = 0;
            top = 0;
            depth = 0;
            goOn = 0;
            lastTry = -1;
            fault = 0;
            layers = 0L;
            ended = -1;
            steps = 0;
            shownCount = 0;
            began = 0;
        }

        private void finish(int how, boolean withValue, long what) {
            ended = how;
            hasValue = withValue;
            value = what;
        }

        private void push(long what) {
            if (top < STACK_ROOM) {
                stack[top] = what;
                top++;
            }
        }

        private long pop() {
            if (top <= 0) {
                return 0L;
            }
            top--;
            return stack[top];
        }

        private void takeGiven(int places) {
            for (int p = places - 1; p >= 0; p--) {
                given[p] = pop();
            }
        }

        private void obey(int op, int arg) {
            switch (op) {
                case OP_STORE:
                    frames[depth * FRAME_ROOM + SLOTS + arg] = pop();
                    break;
                case OP_BRANCH:
                    goOn = (int) pop() == 0 ? arg : goOn;
                    break;
                case OP_JUMP:
                    goOn = arg;
                    break;
                case OP_WITH:
                    push(layers);
                    layers = without(layers, arg) << 4 | arg + 1;
                    break;
                case OP_WITHOUT:
                    push(layers);
                    layers = without(layers, arg);
                    break;
                case OP_LAYERS_BACK:
                    long kept = pop();
                    layers = pop();
                    push(kept);
                    break;
                case OP_TRY:
                    beginTry(arg);
                    break;
                case OP_TRIED:
                    endTry(arg);
                    break;
                case OP_SHOW:
                    showTop();
                    break;
                default:
                    reckon(op, arg);
                    break;
            }
        }

        private static long without(long someLayers, int layer) {
            long left = 0L;
            for (int shift = 4 * (MOST_LAYERS - 1); shift >= 0; shift -= 4) {
                long one = someLayers >>> shift & 15L;
                if (one != 0 && one != layer + 1) {
                    left = left << 4 | one;
                }
            }
            return left;
        }

        private void reckon(int op, int arg) {
            switch (op) {
                case OP_NUMBER:
                    push(valueOf(INT_KIND, arg));
                    break;
                case OP_VARIABLE:
                    push(frames[depth * FRAME_ROOM + SLOTS + arg]);
                    break;
                case OP_MAKE:
                    push(valueOf(arg, (int) pop()));
                    break;
                case OP_NUMBER_OF:
                    push(valueOf(INT_KIND, (int) pop()));
                    break;
                case OP_IS:
                    push(valueOf(INT_KIND, world.kinds.isBelow(kindOf(pop()), arg) ? 1 : 0));
                    break;
                default:
                    int right = (int) pop();
                    int left = (int) pop();
                    if (op == OP_DIVIDE && right == 0) {
                        fault = 3;
                    } else {
                        push(valueOf(INT_KIND, joinTwo(op, left, right)));
                    }
                    break;
            }
        }

        private static int joinTwo(int op, int left, int right) {
            switch (op) {
                case OP_ADD:
                    return left + right;
                case OP_TAKE_OFF:
                    return left - right;
                case OP_TIMES:
                    return left * right;
                case OP_DIVIDE:
                    return right == 0 ? 0 : left / right;
                case OP_LESS:
                    return left < right ? 1 : 0;
                case OP_AT_MOST:
                    return left <= right ? 1 : 0;
                default:
                    return left == right ? 1 : 0;
            }
        }

        private void showTop() {
            if (shownCount >= MOST_SHOWN) {
                finish(5, false, 0L);
            } else {
                long shownValue = pop();
                shownNumbers[shownCount] = (int) shownValue;
                shownCount++;
                push(shownValue);
            }
        }

        private void beginTry(int onFailure) {
            int here = top;
            push(layers);
            push(depth);
            push(onFailure);
            push(lastTry);
            lastTry = here;
        }

        private void endTry(int behind) {
            long kept = pop();
            lastTry = (int) pop();
            top -= TRY_ROOM - 1;
            push(kept);
            goOn = behind;
        }

        private void failWith(long what) {
            fault = 0;
            if (lastTry < 0 || lastTry + TRY_ROOM > STACK_ROOM) {
                finish(1, true, what);
                return;
            }
            top = lastTry;
            layers = stack[top];
            depth = (int) stack[top + 1];
            goOn = (int) stack[top + 2];
            lastTry = (int) stack[top + 3];
            push(what);
        }

        private int inFrame(int frame, int what) {
            return (int) frames[frame * FRAME_ROOM + what];
        }

        private void beginCall(boolean isPlainThere) {
            int home = depth + 1;
            if (!isPlainThere) {
                fault = 1;
            } else if (chooser.rowSize(home, AROUND_ROLE) > 0) {
                beginMethod(home, AROUND_ROLE, 0, goOn, false);
            } else if (chooser.endsWithSeveral(home, AROUND_ROLE)) {
                fault = 2;
            } else {
                beginInside(home, goOn);
            }
        }

        private void beginMethod(int home, int role, int spot, int back, boolean isInside) {
            if (depth >= MOST_DEPTH) {
                fault = 4;
                return;
            }
            int m = chooser.inRow(home, role, spot);
            depth++;
            int frame = depth * FRAME_ROOM;
            frames[frame + BACK] = back;
            frames[frame + METHOD] = m;
            frames[frame + HOME] = home;
            frames[frame + SPOT] = spot;
            frames[frame + IS_INSIDE] = isInside ? 1L : 0L;
            System.arraycopy(given, 0, frames, frame + SLOTS, MOST_PLACES);
            if (began < MOST_RAN) {
                begunMethods[began] = m;
            }
            began++;
            goOn = world.methods.start[m];
        }

        private void goToNext(boolean hasArguments) {
            int frame = depth * FRAME_ROOM;
            int m = inFrame(depth, METHOD);
            int c = world.methods.call[m];
            if (hasArguments) {
                takeGiven(world.places[c]);
            } else {
                System.arraycopy(frames, frame + SLOTS, given, 0, MOST_PLACES);
            }
            int role = world.methods.role[m];
            int home = inFrame(depth, HOME);
            int spot = inFrame(depth, SPOT) + 1;
            if (role != AROUND_ROLE && (role != PLAIN || world.join[c] != JOIN_BEST)) {
                fault = 1;
            } else if (spot < chooser.rowSize(home, role)) {
                beginMethod(home, role, spot, goOn, false);
            } else if (chooser.endsWithSeveral(home, role)) {
                fault = 2;
            } else if (role == PLAIN) {
                fault = 1;
            } else {
                beginInside(home, goOn);
            }
        }

        // the state of an INSIDE is in the frame in which the methods that it runs will be, one behind the other
        private void beginInside(int home, int back) {
            if (chooser.rowSize(home, PLAIN) == 0) {
                fault = 2;
                return;
            }
            int frame = (depth + 1) * FRAME_ROOM;
            int join = world.join[world.methods.call[chooser.inRow(home, PLAIN, 0)]];
            frames[frame + BACK] = back;
            frames[frame + HOME] = home;
            frames[frame + PHASE] = BEFORE_ROLE;
            frames[frame + TURN] = 0;
            frames[frame + JOINED] = valueOf(INT_KIND, join == JOIN_LEAST ? Integer.MAX_VALUE : join == JOIN_ALL ? 1 : 0);
            System.arraycopy(given, 0, frames, frame + GIVEN, MOST_PLACES);
            goOnInside();
        }

        private void goOnInside() {
            int inner = depth + 1;
            int frame = inner * FRAME_ROOM;
            int home = inFrame(inner, HOME);
            int turn = inFrame(inner, TURN);
            if (inFrame(inner, PHASE) == BEFORE_ROLE && turn >= chooser.rowSize(home, BEFORE_ROLE)) {
                frames[frame + PHASE] = PLAIN;
                turn = 0;
            }
            if (inFrame(inner, PHASE) == PLAIN && turn >= plainTurns(home)) {
                frames[frame + PHASE] = BEHIND_ROLE;
                turn = 0;
            }
            int role = inFrame(inner, PHASE);
            int back = inFrame(inner, BACK);
            if (role == BEHIND_ROLE && turn >= chooser.rowSize(home, BEHIND_ROLE)) {
                push(frames[frame + JOINED]);
                goOn = back;
                return;
            }
            frames[frame + TURN] = turn + 1;
            System.arraycopy(frames, frame + GIVEN, given, 0, MOST_PLACES);
            int spot = role == BEHIND_ROLE ? chooser.rowSize(home, BEHIND_ROLE) - 1 - turn : turn;
            beginMethod(home, role, spot, back, true);
        }

        private int plainTurns(int home) {
            int c = world.methods.call[chooser.inRow(home, PLAIN, 0)];
            return world.join[c] == JOIN_BEST ? 1 : chooser.rowSize(home, PLAIN);
        }

        private void endMethod(long what) {
            if (depth == 0) {
                finish(0, true, what);
                return;
            }
            int inner = depth;
            depth--;
            if (inFrame(inner, IS_INSIDE) == 0) {
                goOn = inFrame(inner, BACK);
                push(what);
                return;
            }
            if (inFrame(inner, PHASE) == PLAIN) {
                joinValue(inner, what);
            }
            goOnInside();
        }

        private void joinValue(int inner, long what) {
            int frame = inner * FRAME_ROOM;
            int number = (int) what;
            int before = inFrame(inner, JOINED);
            boolean isSettled = false;
            long joined = what;
            switch (world.join[world.methods.call[inFrame(inner, METHOD)]]) {
                case JOIN_SUM:
                    joined = valueOf(INT_KIND, before + number);
                    break;
                case JOIN_LEAST:
                    joined = valueOf(INT_KIND, Math.min(before, number));
                    break;
                case JOIN_ALL:
                    joined = valueOf(INT_KIND, number == 0 ? 0 : 1);
                    isSettled = number == 0;
                    break;
                case JOIN_ANY:
                    joined = valueOf(INT_KIND, number == 0 ? 0 : 1);
                    isSettled = number != 0;
                    break;
                default:
                    break;
            }
            frames[frame + JOINED] = joined;
            if (isSettled) {
                // no further plain ones run: their turns are over
                frames[frame + TURN] = MOST_METHODS;
            }
        }
    }
}
