import java.util.Arrays;

/**
 * Tries every order in which the messages of a small program can come, and tells
 * whether what it comes to hangs on that order. README.md says how to use it.
 */
public final class OrderTests {
    public static final int NONE = -1, UNKNOWN = -101, OUTSIDE = -102, ROOM = -104;

    private static final int TOP = 15;
    private static final int MOST_VERTICES = 5;
    private static final int MOST_ARCS = 8;
    private static final int MOST_FIRSTS = 4;
    private static final int MOST_STATES = 600;
    /** No ARC ever holds more: its VERTEX sends at most 16 times, so a row fits a long. */
    private static final int MOST_UNDER_WAY = 16;

    private static final int FOLD_KIND = 0;
    private static final int OUT_KIND = 1;
    private static final int ALWAYS = 2;
    private static final int SENDS = 3;
    private static final int ROWS = 4;
    private static final int DOUBLES = 5;
    private static final int SETTINGS = 6;
    private static final int[] LEAST_SETTING = {0, 0, 0, 1, 0, 0};
    private static final int[] GREATEST_SETTING = {9, 4, 1, 16, 1, 2};

    private static final int LAWS = 7;
    /** How many VALUES (a; a, b; a, b, c) each law speaks of. */
    private static final int[] LAW_VALUES = {3, 2, 1, 3, 2, 3, 2};

    /** A STEP's source is the number of an ARC, or this and the number of a FIRST MESSAGE. */
    private static final int FIRST_SOURCE = 100;

    private final Graph graph;
    private final Rules rules;
    private final Search search;
    private final Findings latest;
    /** shrink() looks many times, and the latest look has to stay as it is. */
    private final Findings trial;

    public OrderTests() {
        graph = new Graph();
        rules = new Rules();
        latest = new Findings();
        trial = new Findings();
        search = new Search(graph, rules, trial);
    }

    public int vertex(int value) {
        if (!isValue(value)) {
            return OUTSIDE;
        }
        return graph.addVertex(value);
    }

    public int arc(int from, int to, int weight) {
        if (!graph.hasVertex(from) || !graph.hasVertex(to)) {
            return UNKNOWN;
        }
        if (!isValue(weight)) {
            return OUTSIDE;
        }
        return graph.addArc(from, to, weight);
    }

    public int first(int to, int value) {
        if (!graph.hasVertex(to)) {
            return UNKNOWN;
        }
        if (!isValue(value)) {
            return OUTSIDE;
        }
        return graph.addFirst(to, value);
    }

    public int set(int what, int v) {
        if (!isWithin(what, 0, SETTINGS - 1)) {
            return OUTSIDE;
        }
        if (!isWithin(v, LEAST_SETTING[what], GREATEST_SETTING[what])) {
            return OUTSIDE;
        }
        int before = rules.settings[what];
        rules.settings[what] = v;
        return before;
    }

    public int table(int a, int b, int c) {
        if (!isValue(a) || !isValue(b) || !isValue(c)) {
            return OUTSIDE;
        }
        return rules.tell(a, b, c);
    }

    public int value(int vertex, int v) {
        if (!graph.hasVertex(vertex)) {
            return UNKNOWN;
        }
        if (!isValue(v)) {
            return OUTSIDE;
        }
        int before = graph.begins[vertex];
        graph.begins[vertex] = v;
        return before;
    }

    public int fold(int a, int b) {
        if (!isValue(a) || !isValue(b)) {
            return OUTSIDE;
        }
        return rules.folded(a, b);
    }

    public int out(int y, int w) {
        if (!isValue(y) || !isValue(w)) {
            return OUTSIDE;
        }
        return rules.sentOut(y, w);
    }

    public int law(int which) {
        if (!isWithin(which, 0, LAWS - 1)) {
            return OUTSIDE;
        }
        int lastB = LAW_VALUES[which] > 1 ? TOP : 0;
        int lastC = LAW_VALUES[which] > 2 ? TOP : 0;
        for (int a = 0; a <= TOP; a++) {
            for (int b = 0; b <= lastB; b++) {
                for (int c = 0; c <= lastC; c++) {
                    if (!rules.lawHolds(which, a, b, c)) {
                        return 256 * a + 16 * b + c;
                    }
                }
            }
        }
        return NONE;
    }

    public int about(int what) {
        switch (what) {
            case 0:
                return graph.vertices;
            case 1:
                return graph.arcs;
            case 2:
                return graph.firsts;
            default:
                return isWithin(what, 3, 2 + SETTINGS) ? rules.settings[what - 3] : OUTSIDE;
        }
    }

    public int look(int n) {
        if (!isWithin(n, 1, MOST_STATES)) {
            return OUTSIDE;
        }
        search.run(n, graph.allArcs(), latest);
        return latest.states;
    }

    public int looked(int what) {
        if (!isWithin(what, 0, 3)) {
            return OUTSIDE;
        }
        // Every look finds THE BEGINNING at least.
        if (latest.states == 0) {
            return NONE;
        }
        switch (what) {
            case 0:
                return latest.whole ? 1 : 0;
            case 1:
                return latest.ends;
            case 2:
                return latest.stepless;
            default:
                return latest.mostPending;
        }
    }

    public int end(int k, int vertex) {
        if (!latest.hasEnd(k) || !isWithin(vertex, 0, latest.vertices - 1)) {
            return UNKNOWN;
        }
        return (latest.endValues[k] >>> (4 * vertex)) & TOP;
    }

    public int way(int k, int i, int what) {
        if (!latest.hasEnd(k)) {
            return UNKNOWN;
        }
        int length = latest.wayLength(k);
        if (i == -1) {
            return length;
        }
        if (!isWithin(i, 0, length - 1)) {
            return UNKNOWN;
        }
        int step = latest.stepBefore(k, length - 1 - i);
        switch (what) {
            case 0:
                return Step.source(step);
            case 1:
                return Step.message(step);
            case 2:
                return Step.doubled(step);
            default:
                return OUTSIDE;
        }
    }

    public int shrink(int n) {
        if (!isWithin(n, 1, MOST_STATES)) {
            return OUTSIDE;
        }
        int staying = graph.allArcs();
        search.run(n, staying, trial);
        if (trial.ends < 2) {
            return NONE;
        }
        for (int arc = 0; arc < graph.arcs; arc++) {
            int without = staying & ~(1 << arc);
            search.run(n, without, trial);
            if (trial.ends >= 2) {
                staying = without;
            }
        }
        return staying;
    }

    private static boolean isWithin(int number, int least, int greatest) {
        return number >= least && number <= greatest;
    }

    private static boolean isValue(int number) {
        return number >= 0 && number <= TOP;
    }

    /** The program that is looked at: VERTICES, ARCS and FIRST MESSAGES. */
    private static final class Graph {
        int vertices;
        int arcs;
        int firsts;
        final int[] begins = new int[MOST_VERTICES];
        final int[] arcFrom = new int[MOST_ARCS];
        final int[] arcTo = new int[MOST_ARCS];
        final int[] weights = new int[MOST_ARCS];
        final int[] firstTo = new int[MOST_FIRSTS];
        final int[] firstValue = new int[MOST_FIRSTS];

        boolean hasVertex(int number) {
            return number >= 0 && number < vertices;
        }

        /** All ARCS as a set: bit 2 to the power of the number of each. */
        int allArcs() {
            return (1 << arcs) - 1;
        }

        int addVertex(int begin) {
            if (vertices >= MOST_VERTICES) {
                return ROOM;
            }
            begins[vertices] = begin;
            vertices++;
            return vertices - 1;
        }

        int addArc(int from, int to, int weight) {
            if (arcs >= MOST_ARCS) {
                return ROOM;
            }
            arcFrom[arcs] = from;
            arcTo[arcs] = to;
            weights[arcs] = weight;
            arcs++;
            return arcs - 1;
        }

        int addFirst(int to, int message) {
            if (firsts >= MOST_FIRSTS) {
                return ROOM;
            }
            firstTo[firsts] = to;
            firstValue[firsts] = message;
            firsts++;
            return firsts - 1;
        }
    }

    /** The SETTINGS, THE TABLE, and FOLD and OUT as these make them. */
    private static final class Rules {
        final int[] settings = {0, 0, 0, 1, 0, 0};
        private final int[] told = new int[(TOP + 1) * (TOP + 1)];

        /** The masks keep the index inside the table whatever a and b are. */
        private static int cell(int a, int b) {
            return ((a & TOP) << 4) | (b & TOP);
        }

        int tell(int a, int b, int c) {
            int before = told[cell(a, b)];
            told[cell(a, b)] = c;
            return before;
        }

        int folded(int a, int b) {
            switch (settings[FOLD_KIND]) {
                case 0:
                    return (a + b) & TOP;
                case 1:
                    return Math.min(a, b);
                case 2:
                    return Math.max(a, b);
                case 3:
                    return a ^ b;
                case 4:
                    return b;
                case 5:
                    return a;
                case 6:
                    return (2 * a + b) & TOP;
                case 7:
                    return a & b;
                case 8:
                    return a | b;
                default:
                    return told[cell(a, b)];
            }
        }

        int sentOut(int y, int w) {
            switch (settings[OUT_KIND]) {
                case 0:
                    return y;
                case 1:
                    return (y + w) & TOP;
                case 2:
                    return Math.min(y, w);
                case 3:
                    return Math.max(y, w);
                default:
                    return (y * w) & TOP;
            }
        }

        boolean lawHolds(int which, int a, int b, int c) {
            switch (which) {
                case 0:
                    return folded(folded(a, b), c) == folded(a, folded(b, c));
                case 1:
                    return folded(a, b) == folded(b, a);
                case 2:
                    return folded(a, a) == a;
                case 3:
                    return folded(folded(a, b), c) == folded(folded(a, c), b);
                case 4:
                    return folded(folded(a, b), b) == folded(a, b);
                case 5:
                    return a > b || folded(a, c) <= folded(b, c);
                default:
                    return folded(a, b) <= a;
            }
        }
    }

    /** A STEP in one int, so that a look keeps one row of them. */
    private static final class Step {
        private Step() {
        }

        static int of(int source, int message, int doubled) {
            return source | (message << 8) | (doubled << 12);
        }

        static int source(int step) {
            return step & 255;
        }

        static int message(int step) {
            return (step >>> 8) & TOP;
        }

        static int doubled(int step) {
            return (step >>> 12) & 1;
        }
    }

    /**
     * One STATE in few longs, so that 600 of them are small and quickly compared.
     * The head has the VALUES (5 times 4 bits), how often each VERTEX SENT (5 times 5),
     * which FIRST MESSAGES came (4) and the DOUBLES left (2). Each ARC has a row of
     * 4 bits a VALUE, the first one lowest, and 5 bits of the lengths. Without ROWS the
     * row is kept sorted: then two STATES are alike just when all these numbers are.
     */
    private static final class State {
        private static final int SENT_AT = 20;
        private static final int CAME_AT = 45;
        private static final int DOUBLES_AT = 49;
        private static final int VALUES_MASK = (1 << SENT_AT) - 1;
        private static final long MIX = 0x9E3779B97F4A7C15L;

        long head;
        long lengths;
        final long[] rows = new long[MOST_ARCS];

        void begin(Graph graph, int doubles) {
            head = (long) doubles << DOUBLES_AT;
            for (int v = 0; v < graph.vertices; v++) {
                head |= (long) graph.begins[v] << (4 * v);
            }
            lengths = 0;
            Arrays.fill(rows, 0L);
        }

        void copy(State other) {
            head = other.head;
            lengths = other.lengths;
            System.arraycopy(other.rows, 0, rows, 0, MOST_ARCS);
        }

        int allValues() {
            return (int) head & VALUES_MASK;
        }

        int valueOf(int vertex) {
            return (int) (head >>> (4 * vertex)) & TOP;
        }

        void change(int vertex, int to) {
            head ^= (long) (valueOf(vertex) ^ to) << (4 * vertex);
        }

        int sentBy(int vertex) {
            return (int) (head >>> (SENT_AT + 5 * vertex)) & 31;
        }

        void countSend(int vertex) {
            head += 1L << (SENT_AT + 5 * vertex);
        }

        boolean hasCome(int firstMessage) {
            return ((head >>> (CAME_AT + firstMessage)) & 1L) != 0;
        }

        void markCome(int firstMessage) {
            head |= 1L << (CAME_AT + firstMessage);
        }

        int doublesLeft() {
            return (int) (head >>> DOUBLES_AT) & 3;
        }

        void useDouble() {
            head -= 1L << DOUBLES_AT;
        }

        int underWay(int arc) {
            return (int) (lengths >>> (5 * arc)) & 31;
        }

        int messageAt(int arc, int place) {
            return (int) (rows[arc] >>> (4 * place)) & TOP;
        }

        /** In two shifts, for one by 64 would shift by nothing. */
        void take(int arc, int place) {
            int shift = 4 * place;
            long row = rows[arc];
            long before = row & ((1L << shift) - 1);
            long after = ((row >>> shift) >>> 4) << shift;
            rows[arc] = before | after;
            lengths -= 1L << (5 * arc);
        }

        void put(int arc, int message, boolean asLast) {
            int length = underWay(arc);
            if (length >= MOST_UNDER_WAY) {
                return;
            }
            int place = length;
            if (!asLast) {
                while (place > 0 && messageAt(arc, place - 1) > message) {
                    place--;
                }
            }
            int shift = 4 * place;
            long row = rows[arc];
            long before = row & ((1L << shift) - 1);
            long after = ((row >>> shift) << shift) << 4;
            rows[arc] = before | ((long) message << shift) | after;
            lengths += 1L << (5 * arc);
        }

        /** The messages under way, and the FIRST ones that did not come. */
        int pending(int firsts) {
            int sum = firsts - Long.bitCount((head >>> CAME_AT) & 15L);
            for (int arc = 0; arc < MOST_ARCS; arc++) {
                sum += underWay(arc);
            }
            return sum;
        }

        int hash() {
            long mixed = (head ^ (lengths * MIX)) * MIX;
            for (int arc = 0; arc < MOST_ARCS; arc++) {
                mixed = (mixed ^ (mixed >>> 29) ^ rows[arc]) * MIX;
            }
            return (int) (mixed >>> 33);
        }
    }

    /** The STATES that a look found, in that order, and where to find one like another. */
    private static final class States {
        /** A power of two well above 600, so that there always is a free slot. */
        private static final int SLOTS = 1024;

        int count;
        private final long[] heads = new long[MOST_STATES];
        private final long[] lengths = new long[MOST_STATES];
        private final long[] rows = new long[MOST_STATES * MOST_ARCS];
        /** 0 for a free slot, else a STATE's number and one. */
        private final int[] slots = new int[SLOTS];

        void clear() {
            count = 0;
            Arrays.fill(slots, 0);
        }

        /** The slot in which a STATE like this one would be put, or NONE: it was found. */
        int freeSlot(State state) {
            int start = state.hash();
            for (int tries = 0; tries < SLOTS; tries++) {
                int slot = (start + tries) & (SLOTS - 1);
                if (slots[slot] == 0) {
                    return slot;
                }
                if (isLike(slots[slot] - 1, state)) {
                    return NONE;
                }
            }
            return NONE;
        }

        private boolean isLike(int number, State state) {
            if (heads[number] != state.head || lengths[number] != state.lengths) {
                return false;
            }
            for (int arc = 0; arc < MOST_ARCS; arc++) {
                if (rows[number * MOST_ARCS + arc] != state.rows[arc]) {
                    return false;
                }
            }
            return true;
        }

        void add(State state, int slot) {
            if (count >= MOST_STATES) {
                return;
            }
            heads[count] = state.head;
            lengths[count] = state.lengths;
            System.arraycopy(state.rows, 0, rows, count * MOST_ARCS, MOST_ARCS);
            count++;
            slots[slot] = count;
        }

        void load(int number, State into) {
            into.head = heads[number];
            into.lengths = lengths[number];
            System.arraycopy(rows, number * MOST_ARCS, into.rows, 0, MOST_ARCS);
        }
    }

    /** What a look came to. It stays true when the program is changed after it. */
    private static final class Findings {
        int states;
        int vertices;
        int ends;
        int stepless;
        int mostPending;
        boolean whole;
        final int[] endValues = new int[MOST_STATES];
        private final int[] endStates = new int[MOST_STATES];
        private final int[] parents = new int[MOST_STATES];
        private final int[] steps = new int[MOST_STATES];

        void clear(int vertexCount) {
            states = 0;
            vertices = vertexCount;
            ends = 0;
            stepless = 0;
            mostPending = 0;
            whole = false;
        }

        void note(int parent, int step, int pending, int values) {
            if (states >= MOST_STATES) {
                return;
            }
            parents[states] = parent;
            steps[states] = step;
            mostPending = Math.max(mostPending, pending);
            if (pending == 0) {
                stepless++;
                noteEnd(values);
            }
            states++;
        }

        private void noteEnd(int values) {
            for (int k = 0; k < ends; k++) {
                if (endValues[k] == values) {
                    return;
                }
            }
            if (ends < MOST_STATES) {
                endValues[ends] = values;
                endStates[ends] = states;
                ends++;
            }
        }

        boolean hasEnd(int k) {
            return k >= 0 && k < ends;
        }

        /** A STATE's parent was found before it, so the chain comes down to THE BEGINNING, 0. */
        int wayLength(int k) {
            int length = 0;
            int state = endStates[k];
            while (state > 0 && length < MOST_STATES) {
                state = parents[state];
                length++;
            }
            return length;
        }

        /** The STEP of THE WAY to END k that is so many before the last. */
        int stepBefore(int k, int back) {
            int state = endStates[k];
            for (int b = 0; b < back && state > 0; b++) {
                state = parents[state];
            }
            return steps[state];
        }
    }

    /** Looks: goes through the STATES in the order in which they were found. */
    private static final class Search {
        private final Graph graph;
        private final Rules rules;
        private final States found = new States();
        /** The STATE that is gone through, and the one that a STEP makes of it. */
        private final State here = new State();
        private final State next = new State();
        /** Where the look that goes on is noted; there is one from the start, so it is never null. */
        private Findings findings;
        private int limit;
        private int staying;
        private boolean isFull;

        Search(Graph graph, Rules rules, Findings findings) {
            this.graph = graph;
            this.rules = rules;
            this.findings = findings;
        }

        /** On an ARC that does not stay nothing is sent, so it is as if it were not. */
        void run(int n, int stayingArcs, Findings into) {
            findings = into;
            limit = n;
            staying = stayingArcs;
            isFull = false;
            found.clear();
            into.clear(graph.vertices);
            next.begin(graph, rules.settings[DOUBLES]);
            keepNext(0, 0);
            for (int s = 0; s < found.count && s < MOST_STATES && !isFull; s++) {
                goThrough(s);
            }
            into.whole = !isFull;
        }

        private void goThrough(int number) {
            found.load(number, here);
            int manners = here.doublesLeft() > 0 ? 2 : 1;
            for (int f = 0; f < graph.firsts; f++) {
                for (int doubled = 0; doubled < manners && !here.hasCome(f); doubled++) {
                    take(number, FIRST_SOURCE + f, 0, doubled);
                }
            }
            for (int arc = 0; arc < graph.arcs; arc++) {
                int length = here.underWay(arc);
                for (int place = 0; place < length; place++) {
                    for (int doubled = 0; doubled < manners && isStep(arc, place); doubled++) {
                        take(number, arc, place, doubled);
                    }
                }
            }
        }

        /** Without ROWS the row is sorted: equal VALUES stand together and are one STEP. */
        private boolean isStep(int arc, int place) {
            if (place == 0) {
                return true;
            }
            return rules.settings[ROWS] == 0
                && here.messageAt(arc, place) != here.messageAt(arc, place - 1);
        }

        private void take(int parent, int source, int place, int doubled) {
            if (isFull) {
                return;
            }
            next.copy(here);
            int firstMessage = source - FIRST_SOURCE;
            boolean isFirst = firstMessage >= 0;
            if (doubled == 1) {
                next.useDouble();
            } else if (isFirst) {
                next.markCome(firstMessage);
            } else {
                next.take(source, place);
            }
            int message = isFirst ? graph.firstValue[firstMessage] : here.messageAt(source, place);
            deliver(isFirst ? graph.firstTo[firstMessage] : graph.arcTo[source], message);
            keepNext(parent, Step.of(source, message, doubled));
        }

        private void deliver(int vertex, int message) {
            int x = next.valueOf(vertex);
            int y = rules.folded(x, message);
            next.change(vertex, y);
            boolean wantsToSend = y != x || rules.settings[ALWAYS] == 1;
            if (!wantsToSend || next.sentBy(vertex) >= rules.settings[SENDS]) {
                return;
            }
            next.countSend(vertex);
            for (int arc = 0; arc < graph.arcs; arc++) {
                if (graph.arcFrom[arc] == vertex && ((staying >>> arc) & 1) == 1) {
                    next.put(arc, rules.sentOut(y, graph.weights[arc]), rules.settings[ROWS] == 1);
                }
            }
        }

        private void keepNext(int parent, int step) {
            int slot = found.freeSlot(next);
            if (slot == NONE) {
                return;
            }
            if (found.count >= limit) {
                isFull = true;
                return;
            }
            found.add(next, slot);
            findings.note(parent, step, next.pending(graph.firsts), next.allValues());
        }
    }
}
