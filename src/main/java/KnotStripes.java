/**
 * Nets of knots with at most three threads each, and three colours for the threads.
 * No call makes an object: all rows are made by the constructor and used again.
 */
public final class KnotStripes {
    public static final int UNKNOWN = -1;
    public static final int BAD_VALUE = -2;
    public static final int FULL = -3;
    public static final int NOT_POSSIBLE = -4;
    public static final int NONE = -5;

    private static final int MOST_KNOTS = 14;
    private static final int MOST_THREADS = 21;
    private static final int MOST_AT_A_KNOT = 3;
    private static final int MOST_SIGNS = 60;
    private static final int MOST_STATES = 4;
    private static final int COLOURS = 3;
    private static final int NO_COLOUR = 3;
    private static final int TEXT_FAULT = -100;
    /** No net has so many: 14 knots of three threads have at most 6^(14/6), so 65 covers. */
    private static final int ROOM_FOR_COVERS = 80;
    /** More tries than there are sets of threads. */
    private static final int MOST_SETS = 1 << MOST_THREADS;

    /** The nets that are built in: two knots for each thread. */
    private static final int[] BUILT_IN_0 = {0, 1, 0, 2, 0, 3, 1, 2, 1, 3, 2, 3};
    private static final int[] BUILT_IN_1 = {0, 3, 0, 4, 0, 5, 1, 3, 1, 4, 1, 5, 2, 3, 2, 4, 2, 5};
    private static final int[] BUILT_IN_2 = {
        0, 1, 1, 2, 2, 3, 3, 4, 0, 4, 0, 5, 1, 6, 2, 7, 3, 8, 4, 9, 5, 7, 7, 9, 6, 9, 6, 8, 5, 8};
    private static final int[] BUILT_IN_3 = {0, 1, 1, 2, 0, 2, 3, 4, 4, 5, 3, 5, 0, 3, 1, 4, 2, 5};
    private static final int[] BUILT_IN_4 = {
        0, 1, 0, 2, 1, 3, 2, 3, 1, 4, 2, 4, 3, 4, 0, 5, 5, 6, 5, 7, 6, 8, 7, 8, 6, 9, 7, 9, 8, 9};

    private final Net net;
    private final Net draft;
    private final Net snapshot;
    private boolean hasSnapshot;
    private final History history;
    private final Text text;
    private final Painter painter;
    private final Covers covers;

    public KnotStripes() {
        net = new Net();
        draft = new Net();
        snapshot = new Net();
        hasSnapshot = false;
        history = new History();
        text = new Text();
        painter = new Painter();
        covers = new Covers();
    }

    // ---- nets

    public int take(int which) {
        if (which < 0 || which > 4) {
            return BAD_VALUE;
        }
        history.push(net);
        net.build(builtIn(which));
        return net.knots();
    }

    public int addKnot() {
        if (net.knots() >= MOST_KNOTS) {
            return FULL;
        }
        history.push(net);
        net.addKnots(1);
        return net.knots() - 1;
    }

    public int removeKnot(int knot) {
        if (!net.hasKnot(knot)) {
            return UNKNOWN;
        }
        history.push(net);
        net.dropKnot(knot);
        return net.threads();
    }

    public int addThread(int one, int other) {
        if (!net.hasKnot(one) || !net.hasKnot(other)) {
            return UNKNOWN;
        }
        if (one == other) {
            return BAD_VALUE;
        }
        int ends = bit(one) | bit(other);
        if (!net.mayTie(ends)) {
            return NOT_POSSIBLE;
        }
        history.push(net);
        net.tie(ends);
        return net.threads() - 1;
    }

    public int removeThread(int thread) {
        if (!net.hasThread(thread)) {
            return UNKNOWN;
        }
        history.push(net);
        net.dropThread(thread);
        return net.threads();
    }

    public int readNet() {
        int fault = text.read();
        if (fault >= 0) {
            return TEXT_FAULT - fault;
        }
        if (text.tiesAKnotToItself()) {
            return BAD_VALUE;
        }
        if (!text.tieInto(draft)) {
            return NOT_POSSIBLE;
        }
        history.push(net);
        net.copyFrom(draft);
        return net.knots();
    }

    public int grow(int knot) {
        if (!net.hasKnot(knot)) {
            return UNKNOWN;
        }
        if (!net.isFullKnot(knot)) {
            return NOT_POSSIBLE;
        }
        if (net.knots() + 2 > MOST_KNOTS) {
            return FULL;
        }
        history.push(net);
        net.growInto(knot);
        return net.knots() - 2;
    }

    public int shrink(int knot) {
        if (!net.hasKnot(knot)) {
            return UNKNOWN;
        }
        int corners = net.cornersBeside(knot);
        if (corners == 0 || !net.mayMerge(corners | bit(knot))) {
            return NOT_POSSIBLE;
        }
        history.push(net);
        net.merge(knot, corners);
        return net.knots();
    }

    public int join(int one, int other) {
        if (!net.hasThread(one) || !net.hasThread(other)) {
            return UNKNOWN;
        }
        if (one == other) {
            return BAD_VALUE;
        }
        if (net.knots() + 2 > MOST_KNOTS) {
            return FULL;
        }
        history.push(net);
        net.bridgeOver(one, other);
        return net.threads() - 1;
    }

    // ---- colours

    public int paint(int thread, int colour) {
        if (!net.hasThread(thread)) {
            return UNKNOWN;
        }
        if (colour < 0 || colour > NO_COLOUR) {
            return BAD_VALUE;
        }
        int before = net.colour(thread);
        if (before == colour) {
            return NONE;
        }
        history.push(net);
        net.setColour(thread, colour);
        return before;
    }

    public int exchange(int thread, int colour) {
        int set = chain(thread, colour);
        if (set < 0) {
            return set;
        }
        history.push(net);
        net.swapColours(set, net.colour(thread) + colour);
        return Integer.bitCount(set);
    }

    public int complete() {
        int bare = net.coloured(NO_COLOUR);
        if (!painter.findFirst(net, true)) {
            return NOT_POSSIBLE;
        }
        if (bare == 0) {
            return NONE;
        }
        history.push(net);
        for (int thread = 0; thread < net.threads(); thread++) {
            net.setColour(thread, painter.foundColour(thread));
        }
        return Integer.bitCount(bare);
    }

    // ---- texts

    public int type(char character) {
        if (!text.append(character)) {
            return FULL;
        }
        return text.length();
    }

    public int clearText() {
        int before = text.length();
        text.empty();
        return before;
    }

    // ---- history

    public int undo() {
        if (!history.pop(net)) {
            return NONE;
        }
        return history.size();
    }

    public int keep() {
        snapshot.copyFrom(net);
        hasSnapshot = true;
        return net.threads();
    }

    public int restore() {
        if (!hasSnapshot) {
            return NONE;
        }
        history.push(net);
        net.copyFrom(snapshot);
        return net.threads();
    }

    // ---- what is told

    public int knot(int knot, int what) {
        if (!net.hasKnot(knot)) {
            return UNKNOWN;
        }
        switch (what) {
            case 0: return net.threadsAt(bit(knot));
            case 1: return net.neighbours(knot);
            case 2: return net.isWrong(knot) ? 1 : 0;
            case 3: return Ways.reached(net, bit(knot), net.allThreads());
            case 4: return orNone(Ways.shortestCircle(net, net.threadsAt(bit(knot))));
            default: return BAD_VALUE;
        }
    }

    public int thread(int thread, int what) {
        if (!net.hasThread(thread)) {
            return UNKNOWN;
        }
        switch (what) {
            case 0: return net.lesserKnot(thread);
            case 1: return net.greaterKnot(thread);
            case 2: return net.colour(thread) == NO_COLOUR ? NONE : net.colour(thread);
            case 3: return Ways.circleThrough(net, thread) == 0 ? 1 : 0;
            case 4: return orNone(Ways.circleThrough(net, thread));
            case 5:
                covers.list(net);
                return covers.howManyHold(thread);
            default: return BAD_VALUE;
        }
    }

    public int between(int one, int other) {
        if (!net.hasKnot(one) || !net.hasKnot(other)) {
            return UNKNOWN;
        }
        int thread = net.find(bit(one) | bit(other));
        return thread < 0 ? NONE : thread;
    }

    public int chain(int thread, int colour) {
        if (!net.hasThread(thread)) {
            return UNKNOWN;
        }
        int own = net.colour(thread);
        if (colour < 0 || colour >= COLOURS || colour == own) {
            return BAD_VALUE;
        }
        if (own == NO_COLOUR) {
            return NOT_POSSIBLE;
        }
        int both = net.coloured(own) | net.coloured(colour);
        return both & net.threadsAt(Ways.reached(net, net.ends(thread), both));
    }

    public int paintings(int what) {
        switch (what) {
            case 0: return painter.isPaintable(net) ? 1 : 0;
            case 1: return painter.howMany(net, true);
            case 2: return painter.howMany(net, false);
            default: return BAD_VALUE;
        }
    }

    public int firstPainting(int thread) {
        if (!net.hasThread(thread)) {
            return UNKNOWN;
        }
        return painter.findFirst(net, false) ? painter.foundColour(thread) : NONE;
    }

    public int takingOut(int what) {
        if (what != 0 && what != 1) {
            return BAD_VALUE;
        }
        int set = painter.firstLeastSet(net);
        return what == 0 ? Integer.bitCount(set) : set;
    }

    public int cover(int rank) {
        if (rank < 0) {
            return BAD_VALUE;
        }
        covers.list(net);
        return rank < covers.size() ? covers.get(rank) : NONE;
    }

    public int circles(int rank, int what) {
        if (!net.isFull()) {
            return NOT_POSSIBLE;
        }
        if (rank < 0 || what < 0 || what > 2) {
            return BAD_VALUE;
        }
        covers.list(net);
        if (rank >= covers.size()) {
            return NONE;
        }
        covers.leave(net, rank);
        switch (what) {
            case 0: return covers.circlesLeft();
            case 1: return covers.oddCirclesLeft();
            default: return covers.longestLeft();
        }
    }

    public int fewestOdd() {
        if (!net.isFull()) {
            return NOT_POSSIBLE;
        }
        covers.list(net);
        if (covers.size() == 0) {
            return NONE;
        }
        int fewest = MOST_KNOTS;
        for (int rank = 0; rank < covers.size(); rank++) {
            covers.leave(net, rank);
            fewest = Math.min(fewest, covers.oddCirclesLeft());
        }
        return fewest;
    }

    public int count(int what) {
        switch (what) {
            case 0: return net.knots();
            case 1: return net.threads();
            case 2: return net.isFull() ? 1 : 0;
            case 3: return Ways.parts(net);
            case 4: return Ways.bridges(net);
            case 5: return orNone(Ways.shortestCircle(net, net.allThreads()));
            case 6:
                covers.list(net);
                return covers.size();
            case 7: return net.wrongKnots();
            case 8: return Integer.bitCount(net.coloured(NO_COLOUR));
            case 9: return history.size();
            case 10: return text.length();
            default: return BAD_VALUE;
        }
    }

    // ---- small helps

    private static int orNone(int length) {
        return length == 0 ? NONE : length;
    }

    private static int[] builtIn(int which) {
        switch (which) {
            case 0: return BUILT_IN_0;
            case 1: return BUILT_IN_1;
            case 2: return BUILT_IN_2;
            case 3: return BUILT_IN_3;
            default: return BUILT_IN_4;
        }
    }

    private static int bit(int number) {
        return 1 << number;
    }

    private static boolean holds(int set, int number) {
        return (set >> number & 1) != 0;
    }

    /** An index outside the row reads as 0, so that no row can throw. */
    private static int at(int[] row, int index) {
        return index >= 0 && index < row.length ? row[index] : 0;
    }

    /** An index outside the row writes nothing, so that no row can throw. */
    private static void put(int[] row, int index, int value) {
        if (index >= 0 && index < row.length) {
            row[index] = value;
        }
    }

    /**
     * A state: knots, and threads with colours. The ends of a thread are a set of two knots
     * (as bits), so that the order of both never has to be mended.
     */
    private static final class Net {
        private int knots;
        private int threads;
        private final int[] ends;
        private final int[] colours;

        Net() {
            knots = 0;
            threads = 0;
            ends = new int[MOST_THREADS];
            colours = new int[MOST_THREADS];
        }

        int knots() {
            return knots;
        }

        int threads() {
            return threads;
        }

        boolean hasKnot(int knot) {
            return knot >= 0 && knot < knots;
        }

        boolean hasThread(int thread) {
            return thread >= 0 && thread < threads;
        }

        int allKnots() {
            return bit(knots) - 1;
        }

        int allThreads() {
            return bit(threads) - 1;
        }

        int ends(int thread) {
            return at(ends, thread);
        }

        int lesserKnot(int thread) {
            return Integer.numberOfTrailingZeros(ends(thread));
        }

        int greaterKnot(int thread) {
            return 31 - Integer.numberOfLeadingZeros(ends(thread));
        }

        int colour(int thread) {
            return at(colours, thread);
        }

        void setColour(int thread, int colour) {
            put(colours, thread, colour);
        }

        /** The threads that have this colour. */
        int coloured(int colour) {
            int set = 0;
            for (int thread = 0; thread < threads; thread++) {
                if (colour(thread) == colour) {
                    set |= bit(thread);
                }
            }
            return set;
        }

        /** The threads that have an end among these knots. */
        int threadsAt(int someKnots) {
            int set = 0;
            for (int thread = 0; thread < threads; thread++) {
                if ((ends(thread) & someKnots) != 0) {
                    set |= bit(thread);
                }
            }
            return set;
        }

        int neighbours(int knot) {
            int set = 0;
            for (int thread = 0; thread < threads; thread++) {
                if (holds(ends(thread), knot)) {
                    set |= ends(thread);
                }
            }
            return set & ~bit(knot);
        }

        /** The thread with just these ends, or -1. */
        int find(int twoKnots) {
            for (int thread = 0; thread < threads; thread++) {
                if (ends(thread) == twoKnots) {
                    return thread;
                }
            }
            return -1;
        }

        boolean isFullKnot(int knot) {
            return Integer.bitCount(threadsAt(bit(knot))) >= MOST_AT_A_KNOT;
        }

        boolean isFull() {
            for (int knot = 0; knot < knots; knot++) {
                if (!isFullKnot(knot)) {
                    return false;
                }
            }
            return knots > 0;
        }

        boolean isWrong(int knot) {
            int seen = 0;
            for (int thread = 0; thread < threads; thread++) {
                int colour = colour(thread);
                if (holds(ends(thread), knot) && colour != NO_COLOUR) {
                    if (holds(seen, colour)) {
                        return true;
                    }
                    seen |= bit(colour);
                }
            }
            return false;
        }

        int wrongKnots() {
            int sum = 0;
            for (int knot = 0; knot < knots; knot++) {
                if (isWrong(knot)) {
                    sum++;
                }
            }
            return sum;
        }

        void copyFrom(Net other) {
            knots = other.knots;
            threads = other.threads;
            for (int thread = 0; thread < threads; thread++) {
                put(ends, thread, other.ends(thread));
                put(colours, thread, other.colour(thread));
            }
        }

        void empty() {
            knots = 0;
            threads = 0;
        }

        void addKnots(int more) {
            knots = Math.min(knots + more, MOST_KNOTS);
        }

        void build(int[] knotPairs) {
            empty();
            int greatest = -1;
            for (int i = 0; i + 1 < knotPairs.length; i += 2) {
                tie(bit(at(knotPairs, i)) | bit(at(knotPairs, i + 1)));
                greatest = Math.max(greatest, at(knotPairs, i + 1));
            }
            addKnots(greatest + 1);
        }

        /** Whether no thread is between these two knots, and both have room for one. */
        boolean mayTie(int twoKnots) {
            if (find(twoKnots) >= 0) {
                return false;
            }
            int lesser = Integer.numberOfTrailingZeros(twoKnots);
            int greater = 31 - Integer.numberOfLeadingZeros(twoKnots);
            return !isFullKnot(lesser) && !isFullKnot(greater);
        }

        /** Adds a thread without a colour; the caller knows that it may be tied. */
        void tie(int twoKnots) {
            if (threads < MOST_THREADS) {
                put(ends, threads, twoKnots);
                put(colours, threads, NO_COLOUR);
                threads++;
            }
        }

        void dropThread(int thread) {
            if (!hasThread(thread)) {
                return;
            }
            for (int i = thread; i + 1 < threads; i++) {
                put(ends, i, at(ends, i + 1));
                put(colours, i, at(colours, i + 1));
            }
            threads--;
        }

        private void dropThreads(int set) {
            for (int thread = threads - 1; thread >= 0; thread--) {
                if (holds(set, thread)) {
                    dropThread(thread);
                }
            }
        }

        void dropKnot(int knot) {
            if (!hasKnot(knot)) {
                return;
            }
            dropThreads(threadsAt(bit(knot)));
            int below = bit(knot) - 1;
            for (int thread = 0; thread < threads; thread++) {
                int old = ends(thread);
                put(ends, thread, (old & below) | (old >> 1 & ~below));
            }
            knots--;
        }

        private void moveEnd(int thread, int from, int to) {
            put(ends, thread, (ends(thread) & ~bit(from)) | bit(to));
        }

        /** The caller knows that the knot has three threads, and that two knots more have room. */
        void growInto(int knot) {
            int one = knots;
            int other = knots + 1;
            int first = threadsAt(bit(knot));
            int second = first & first - 1;
            int third = second & second - 1;
            addKnots(2);
            moveEnd(Integer.numberOfTrailingZeros(second), knot, one);
            moveEnd(Integer.numberOfTrailingZeros(third), knot, other);
            tie(bit(knot) | bit(one));
            tie(bit(knot) | bit(other));
            tie(bit(one) | bit(other));
        }

        /** The caller knows that both are threads, and that two knots more have room. */
        void bridgeOver(int thread, int otherThread) {
            int one = knots;
            int other = knots + 1;
            int oneEnd = greaterKnot(thread);
            int otherEnd = greaterKnot(otherThread);
            addKnots(2);
            moveEnd(thread, oneEnd, one);
            moveEnd(otherThread, otherEnd, other);
            tie(bit(one) | bit(oneEnd));
            tie(bit(other) | bit(otherEnd));
            tie(bit(one) | bit(other));
        }

        /** The lowest two knots that make a triangle with this one, as bits; 0 if there are none. */
        int cornersBeside(int knot) {
            if (!isFullKnot(knot)) {
                return 0;
            }
            int around = neighbours(knot);
            for (int one = 0; one < knots; one++) {
                for (int other = one + 1; other < knots; other++) {
                    int both = bit(one) | bit(other);
                    if ((around & both) == both && find(both) >= 0
                            && isFullKnot(one) && isFullKnot(other)) {
                        return both;
                    }
                }
            }
            return 0;
        }

        /** Whether no two threads that leave the triangle lead to the same knot. */
        boolean mayMerge(int triangle) {
            int seen = 0;
            for (int thread = 0; thread < threads; thread++) {
                int outside = ends(thread) & ~triangle;
                if (outside != ends(thread)) {
                    if ((seen & outside) != 0) {
                        return false;
                    }
                    seen |= outside;
                }
            }
            return true;
        }

        /** The caller knows that these make a triangle that may be merged. */
        void merge(int knot, int corners) {
            for (int thread = 0; thread < threads; thread++) {
                int outside = ends(thread) & ~corners & ~bit(knot);
                if (outside != 0 && outside != ends(thread)) {
                    put(ends, thread, outside | bit(knot));
                }
            }
            // the three inner threads go with the corners; the greater corner is first, so that
            // the lesser one keeps its number until it goes
            dropKnot(31 - Integer.numberOfLeadingZeros(corners));
            dropKnot(Integer.numberOfTrailingZeros(corners));
        }

        /** Gives each thread of the set the other one of two colours, which are told by their sum. */
        void swapColours(int set, int sum) {
            for (int thread = 0; thread < threads; thread++) {
                if (holds(set, thread)) {
                    setColour(thread, sum - colour(thread));
                }
            }
        }
    }

    /** The states that can be restored, the oldest one first. */
    private static final class History {
        private final Net[] states;
        private int size;

        History() {
            states = new Net[MOST_STATES];
            for (int i = 0; i < states.length; i++) {
                states[i] = new Net();
            }
            size = 0;
        }

        int size() {
            return size;
        }

        void push(Net net) {
            if (size >= states.length) {
                dropOldest();
            }
            if (size < 0 || size >= states.length) {
                return;
            }
            Net place = states[size];
            if (place != null) {
                place.copyFrom(net);
                size++;
            }
        }

        private void dropOldest() {
            for (int i = 1; i < states.length; i++) {
                Net older = states[i - 1];
                Net newer = states[i];
                if (older != null && newer != null) {
                    older.copyFrom(newer);
                }
            }
            size--;
        }

        /** Whether there was a state, which is restored into the net. */
        boolean pop(Net net) {
            int latest = size - 1;
            if (latest < 0 || latest >= states.length) {
                return false;
            }
            Net state = states[latest];
            if (state == null) {
                return false;
            }
            net.copyFrom(state);
            size = latest;
            return true;
        }
    }

    /** The text, and the threads that were read from it: the two knots of each one as bits. */
    private static final class Text {
        private static final int NO_KNOT = -1;
        private static final int NO_FAULT = -1;

        private final char[] signs;
        private int length;
        private final int[] pairs;
        private int size;

        Text() {
            signs = new char[MOST_SIGNS];
            length = 0;
            pairs = new int[MOST_THREADS];
            size = 0;
        }

        int length() {
            return length;
        }

        void empty() {
            length = 0;
        }

        boolean append(char sign) {
            if (length < 0 || length >= signs.length) {
                return false;
            }
            signs[length] = sign;
            length++;
            return true;
        }

        /** Reads the text; returns the fault, or -1 if it has none. */
        int read() {
            size = 0;
            int first = NO_KNOT;
            int value = NO_KNOT;
            for (int i = 0; i < length && i < signs.length; i++) {
                char sign = signs[i];
                if (mayFollow(value, sign)) {
                    value = (value == NO_KNOT ? 0 : 10 * value) + (sign - '0');
                } else if (sign == '-' && value != NO_KNOT && first == NO_KNOT) {
                    first = value;
                    value = NO_KNOT;
                } else if (sign == ',' && value != NO_KNOT && first != NO_KNOT) {
                    addPair(first, value);
                    first = NO_KNOT;
                    value = NO_KNOT;
                } else {
                    return i;
                }
            }
            if (first == NO_KNOT || value == NO_KNOT) {
                return length;
            }
            addPair(first, value);
            return NO_FAULT;
        }

        /** Whether the sign is a digit that may stand behind what was read of a knot. */
        private static boolean mayFollow(int value, char sign) {
            if (sign < '0' || sign > '9') {
                return false;
            }
            // only 1 can be followed: 0 stands alone, and from 2 on the knot would be more than 13
            return value == NO_KNOT || value == 1 && sign <= '3';
        }

        private void addPair(int one, int other) {
            put(pairs, size, bit(one) | bit(other));
            size++;
        }

        boolean tiesAKnotToItself() {
            for (int i = 0; i < size; i++) {
                if (Integer.bitCount(at(pairs, i)) == 1) {
                    return true;
                }
            }
            return false;
        }

        /** Makes the net that was read; returns whether it may be. */
        boolean tieInto(Net net) {
            int used = 0;
            net.empty();
            for (int i = 0; i < size; i++) {
                if (!net.mayTie(at(pairs, i))) {
                    return false;
                }
                net.tie(at(pairs, i));
                used |= at(pairs, i);
            }
            net.addKnots(32 - Integer.numberOfLeadingZeros(used));
            return true;
        }
    }

    /** Ways along threads. */
    private static final class Ways {
        private Ways() {
        }

        /** The knots, and those that one of the threads joins to them. */
        private static int spread(Net net, int knots, int threads) {
            int wider = knots;
            for (int thread = 0; thread < net.threads(); thread++) {
                if (holds(threads, thread) && (net.ends(thread) & knots) != 0) {
                    wider |= net.ends(thread);
                }
            }
            return wider;
        }

        /** The knots that can be reached from these knots along these threads. */
        static int reached(Net net, int knots, int threads) {
            int now = knots;
            for (int step = 0; step < MOST_KNOTS; step++) {
                int wider = spread(net, now, threads);
                if (wider == now) {
                    break;
                }
                now = wider;
            }
            return now;
        }

        /** The length of the shortest circle through a thread; 0 if there is none. */
        static int circleThrough(Net net, int thread) {
            int others = net.allThreads() & ~bit(thread);
            int goal = bit(net.greaterKnot(thread));
            int now = bit(net.lesserKnot(thread));
            for (int step = 1; step < MOST_KNOTS; step++) {
                now = spread(net, now, others);
                if ((now & goal) != 0) {
                    return step + 1;
                }
            }
            return 0;
        }

        /** The length of the shortest circle through any of these threads; 0 if there is none. */
        static int shortestCircle(Net net, int threads) {
            int shortest = 0;
            for (int thread = 0; thread < net.threads(); thread++) {
                if (holds(threads, thread)) {
                    int length = circleThrough(net, thread);
                    if (length != 0 && (shortest == 0 || length < shortest)) {
                        shortest = length;
                    }
                }
            }
            return shortest;
        }

        static int bridges(Net net) {
            int sum = 0;
            for (int thread = 0; thread < net.threads(); thread++) {
                if (circleThrough(net, thread) == 0) {
                    sum++;
                }
            }
            return sum;
        }

        static int parts(Net net) {
            int rest = net.allKnots();
            int sum = 0;
            for (int knot = 0; knot < net.knots(); knot++) {
                if (holds(rest, knot)) {
                    rest &= ~reached(net, bit(knot), net.allThreads());
                    sum++;
                }
            }
            return sum;
        }
    }

    /** The covers of a net in their order, and the circles that one of them leaves. */
    private static final class Covers {
        private final int[] found;
        private int size;
        /** For each thread the knots that the threads before it can still cover. */
        private final int[] before;
        private int circles;
        private int oddCircles;
        private int longest;

        Covers() {
            found = new int[ROOM_FOR_COVERS];
            before = new int[MOST_THREADS];
            size = 0;
            circles = 0;
            oddCircles = 0;
            longest = 0;
        }

        int size() {
            return size;
        }

        int get(int rank) {
            return at(found, rank);
        }

        int howManyHold(int thread) {
            int sum = 0;
            for (int rank = 0; rank < size; rank++) {
                if (holds(get(rank), thread)) {
                    sum++;
                }
            }
            return sum;
        }

        void list(Net net) {
            size = 0;
            int coverable = 0;
            for (int thread = 0; thread < net.threads(); thread++) {
                put(before, thread, coverable);
                coverable |= net.ends(thread);
            }
            if (coverable == net.allKnots()) {
                decide(this, net, net.threads() - 1, 0, 0);
            }
        }

        /**
         * From the greatest thread down, without it first: so the least covers come first.
         * Calls itself for the thread before, so at most as deep as there are threads.
         */
        private static void decide(Covers covers, Net net, int thread, int covered, int cover) {
            if (thread < 0) {
                covers.addCover(cover);
                return;
            }
            int all = net.allKnots();
            int ends = net.ends(thread);
            int later = at(covers.before, thread);
            if ((covered | later) == all) {
                decide(covers, net, thread - 1, covered, cover);
            }
            if ((covered & ends) == 0 && (covered | ends | later) == all) {
                decide(covers, net, thread - 1, covered | ends, cover | bit(thread));
            }
        }

        private void addCover(int cover) {
            if (size < found.length) {
                put(found, size, cover);
                size++;
            }
        }

        /** Looks at the circles that a cover leaves of a full net. */
        void leave(Net net, int rank) {
            int threads = net.allThreads() & ~get(rank);
            int rest = net.allKnots();
            circles = 0;
            oddCircles = 0;
            longest = 0;
            for (int knot = 0; knot < net.knots(); knot++) {
                if (holds(rest, knot)) {
                    int circle = Ways.reached(net, bit(knot), threads);
                    int length = Integer.bitCount(circle);
                    rest &= ~circle;
                    circles++;
                    oddCircles += length & 1;
                    longest = Math.max(longest, length);
                }
            }
        }

        int circlesLeft() {
            return circles;
        }

        int oddCirclesLeft() {
            return oddCircles;
        }

        int longestLeft() {
            return longest;
        }
    }

    /**
     * Good paintings. The threads that are open are put into groups that share no knot, so that
     * the numbers of each group's paintings can be multiplied; in a group the tightest thread
     * comes first. What colours are used at the knots is told by three bits for each knot.
     */
    private static final class Painter {
        private static final int ANY_NUMBER = 0x7fffffff;
        private static final long CLASH = -1L;

        /** The open threads by place: their bits, and the first used-colour bits of their ends. */
        private final int[] bits;
        private final int[] lesser;
        private final int[] greater;
        private int placed;
        /** For each group the place behind its last one. */
        private final int[] stops;
        private int groups;
        /** For each thread those that share a knot with it. */
        private final int[] beside;
        private final int[] found;

        Painter() {
            bits = new int[MOST_THREADS];
            lesser = new int[MOST_THREADS];
            greater = new int[MOST_THREADS];
            stops = new int[MOST_THREADS];
            beside = new int[MOST_THREADS];
            found = new int[MOST_THREADS];
            placed = 0;
            groups = 0;
        }

        int foundColour(int thread) {
            return at(found, thread);
        }

        boolean isPaintable(Net net) {
            arrange(net, net.allThreads());
            return ways(0L, 0, 1) > 0;
        }

        /** How many good paintings there are; if kept, those with the colours that threads have. */
        int howMany(Net net, boolean kept) {
            long used = kept ? usedColours(net) : 0L;
            if (used == CLASH) {
                return 0;
            }
            arrange(net, kept ? net.coloured(NO_COLOUR) : net.allThreads());
            return ways(used, 0, ANY_NUMBER);
        }

        /** Whether there is a good painting; the first one is found then. */
        boolean findFirst(Net net, boolean kept) {
            long used = kept ? usedColours(net) : 0L;
            if (used == CLASH) {
                return false;
            }
            int open = kept ? net.coloured(NO_COLOUR) : net.allThreads();
            arrange(net, open);
            if (ways(used, 0, 1) == 0) {
                return false;
            }
            int fixed = 0;
            for (int thread = 0; thread < net.threads(); thread++) {
                int colour = net.colour(thread);
                if (holds(open, thread)) {
                    fixed |= bit(thread);
                    colour = lowestColour(net.ends(thread), used, fixed);
                    used |= usedBy(net.ends(thread), colour);
                }
                put(found, thread, colour);
            }
            return true;
        }

        /** The lowest colour with which the threads that are not fixed can still be painted. */
        private int lowestColour(int ends, long used, int fixed) {
            for (int colour = 0; colour < COLOURS - 1; colour++) {
                long more = usedBy(ends, colour);
                if ((used & more) == 0 && ways(used | more, fixed, 1) > 0) {
                    return colour;
                }
            }
            return COLOURS - 1;
        }

        /** The sets are tried by their size, then as numbers: the first that is enough is due. */
        int firstLeastSet(Net net) {
            int all = net.allThreads();
            arrange(net, all);
            for (int size = 0; size < net.threads(); size++) {
                int set = bit(size) - 1;
                for (int tries = 0; tries < MOST_SETS && set <= all; tries++) {
                    if (ways(0L, set, 1) > 0) {
                        return set;
                    }
                    if (set == 0) {
                        break;
                    }
                    set = nextOfItsSize(set);
                }
            }
            return all;
        }

        /** The next greater number with as many bits; the set is not empty. */
        private static int nextOfItsSize(int set) {
            int low = Integer.numberOfTrailingZeros(set);
            int raised = set + bit(low);
            return raised | (set ^ raised) >>> low + 2;
        }

        private static long usedBy(int ends, int colour) {
            int one = Integer.numberOfTrailingZeros(ends);
            int other = 31 - Integer.numberOfLeadingZeros(ends);
            return usedWith(COLOURS * one, COLOURS * other, colour);
        }

        private static long usedColours(Net net) {
            long used = 0L;
            for (int thread = 0; thread < net.threads(); thread++) {
                if (net.colour(thread) != NO_COLOUR) {
                    long more = usedBy(net.ends(thread), net.colour(thread));
                    if ((used & more) != 0) {
                        return CLASH;
                    }
                    used |= more;
                }
            }
            return used;
        }

        private void arrange(Net net, int open) {
            for (int thread = 0; thread < net.threads(); thread++) {
                put(beside, thread, net.threadsAt(net.ends(thread)));
            }
            placed = 0;
            groups = 0;
            int rest = open;
            for (int round = 0; round < MOST_THREADS && rest != 0; round++) {
                rest = arrangeGroup(net, rest);
            }
        }

        /** Places one group; returns the open threads that are left. */
        private int arrangeGroup(Net net, int open) {
            int rest = open;
            int group = 0;
            for (int round = 0; round < MOST_THREADS; round++) {
                int thread = tightest(net.threads(), rest, group);
                if (thread < 0) {
                    break;
                }
                put(bits, placed, bit(thread));
                put(lesser, placed, COLOURS * net.lesserKnot(thread));
                put(greater, placed, COLOURS * net.greaterKnot(thread));
                placed++;
                group |= bit(thread);
                rest &= ~bit(thread);
            }
            put(stops, groups, placed);
            groups++;
            return rest;
        }

        /** The thread beside the group that the most threads touch that are not in the rest. */
        private int tightest(int threads, int rest, int group) {
            int best = -1;
            int most = -1;
            for (int thread = 0; thread < threads; thread++) {
                int touching = at(beside, thread);
                if (holds(rest, thread) && (group == 0 || (touching & group) != 0)) {
                    int weight = Integer.bitCount(touching & ~rest);
                    if (weight > most) {
                        best = thread;
                        most = weight;
                    }
                }
            }
            return best;
        }

        /** How many good paintings the open threads have, without those to skip; enough is a bound. */
        private int ways(long used, int skip, int enough) {
            int product = 1;
            int from = 0;
            for (int group = 0; group < groups && product > 0; group++) {
                int stop = at(stops, group);
                product *= groupWays(from, stop, used, skip, enough);
                from = stop;
            }
            return product;
        }

        private int groupWays(int from, int stop, long used, int skip, int enough) {
            if (!isBare(from, stop, used, skip)) {
                return waysFrom(this, from, stop, used, skip, enough);
            }
            int first = from;
            while (first < stop && (at(bits, first) & skip) != 0) {
                first++;
            }
            if (first >= stop) {
                return 1;
            }
            // no colour is used yet: each colour of the first thread has as many paintings
            long begun = used | usedWith(at(lesser, first), at(greater, first), 0);
            return COLOURS * waysFrom(this, first + 1, stop, begun, skip, enough);
        }

        /** Whether no colour is used at the knots of the group's threads. */
        private boolean isBare(int from, int stop, long used, int skip) {
            for (int place = from; place < stop; place++) {
                boolean skipped = (at(bits, place) & skip) != 0;
                if (!skipped && usedAt(at(lesser, place), at(greater, place), used) != 0) {
                    return false;
                }
            }
            return true;
        }

        /** The colours that are used at two knots, which are told by where their bits begin. */
        private static int usedAt(int one, int other, long used) {
            return (int) (used >>> one | used >>> other) & 7;
        }

        /** What a thread of this colour uses at two knots, which are told by where their bits begin. */
        private static long usedWith(int one, int other, int colour) {
            return 1L << one + colour | 1L << other + colour;
        }

        /** Calls itself for the next place, so at most as deep as there are threads. */
        private static int waysFrom(Painter painter, int place, int stop, long used, int skip,
                int enough) {
            if (place >= stop || place >= MOST_THREADS) {
                return 1;
            }
            if ((at(painter.bits, place) & skip) != 0) {
                return waysFrom(painter, place + 1, stop, used, skip, enough);
            }
            int one = at(painter.lesser, place);
            int other = at(painter.greater, place);
            int taken = usedAt(one, other, used);
            int sum = 0;
            for (int colour = 0; colour < COLOURS && sum < enough; colour++) {
                if (!holds(taken, colour)) {
                    long more = used | usedWith(one, other, colour);
                    sum += waysFrom(painter, place + 1, stop, more, skip, enough - sum);
                }
            }
            return sum;
        }
    }
}
