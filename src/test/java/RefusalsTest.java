import java.util.ArrayList;
import java.util.List;

/**
 * "REFUSALS, of several the first one here: UNKNOWN, OUTSIDE, ROOM, NONE. What is refused changes nothing." Each call
 * that is refused is made on one of two objects that were made alike, and then all that can be asked is asked of both.
 * No object is used for more than 512 calls.
 */
public final class RefusalsTest {
    private static final int NONE = OrderTests.NONE;
    private static final int UNKNOWN = OrderTests.UNKNOWN;
    private static final int OUTSIDE = OrderTests.OUTSIDE;
    private static final int ROOM = OrderTests.ROOM;
    private static final int LOW = Integer.MIN_VALUE;
    private static final int HIGH = Integer.MAX_VALUE;

    private static final int EMPTY = 0;
    private static final int HALF = 1;
    private static final int FULL = 2;
    private static final String[] NAMES = {"empty", "half full", "full"};

    private static final int END_READINGS = 4 + 3 * 6;
    private static final int LOOK_READINGS = END_READINGS + 3 * (1 + 8 * 3);
    private static final int READINGS = 9 + LOOK_READINGS + 2 + END_READINGS + 5 + 1 + 256;

    private static int wrong = 0;

    private enum Method { VERTEX, ARC, FIRST, SET, TABLE, VALUE, FOLD, OUT, LAW, ABOUT, LOOK, LOOKED, END, WAY, SHRINK }

    private record Call(Method method, int a, int b, int c, int due) {
        int on(OrderTests x) {
            return switch (method) {
                case VERTEX -> x.vertex(a);
                case ARC -> x.arc(a, b, c);
                case FIRST -> x.first(a, b);
                case SET -> x.set(a, b);
                case TABLE -> x.table(a, b, c);
                case VALUE -> x.value(a, b);
                case FOLD -> x.fold(a, b);
                case OUT -> x.out(a, b);
                case LAW -> x.law(a);
                case ABOUT -> x.about(a);
                case LOOK -> x.look(a);
                case LOOKED -> x.looked(a);
                case END -> x.end(a, b);
                case WAY -> x.way(a, b, c);
                case SHRINK -> x.shrink(a);
            };
        }
    }

    private static final class Calls {
        final List<Call> all = new ArrayList<>();

        Calls with(Method method, int due, int... arguments) {
            int[] abc = new int[3];
            System.arraycopy(arguments, 0, abc, 0, arguments.length);
            all.add(new Call(method, abc[0], abc[1], abc[2], due));
            return this;
        }

        /** One call for each of these as the first argument. */
        Calls withEach(Method method, int due, int... arguments) {
            for (int a : arguments) {
                with(method, due, a);
            }
            return this;
        }
    }

    public static void main(String[] args) {
        basesHaveEnds();
        for (int base = EMPTY; base <= FULL; base++) {
            Calls calls = refusedAnyway();
            if (base == EMPTY) {
                refusedOfEmpty(calls);
            } else if (base == HALF) {
                refusedOfHalf(calls);
            } else {
                refusedOfFull(calls);
            }
            eachAlone(base, calls.all);
            allTogether(base, calls.all);
        }
        System.out.println(wrong == 0 ? "all answers are as due" : wrong + " answers are not as due");
        if (wrong != 0) {
            System.exit(1);
        }
    }

    private static void eachAlone(int base, List<Call> calls) {
        int[] untouched = reading(made(base));
        for (Call call : calls) {
            OrderTests x = made(base);
            make(base, call, x);
            compare(base, call.toString(), reading(x), untouched);
        }
    }

    private static void allTogether(int base, List<Call> calls) {
        OrderTests x = made(base);
        for (Call call : calls) {
            make(base, call, x);
        }
        compareLook(base, x);
    }

    private static void make(int base, Call call, OrderTests x) {
        int got = call.on(x);
        if (got != call.due()) {
            wrong++;
            System.out.println("when " + NAMES[base] + ", " + call + " answered " + got);
        }
    }

    private static void compare(int base, String after, int[] now, int[] untouched) {
        for (int i = 0; i < now.length; i++) {
            if (now[i] != untouched[i]) {
                wrong++;
                System.out.println("when " + NAMES[base] + ", after " + after + " reading " + i + " is " + now[i]
                    + ", without it " + untouched[i]);
                return;
            }
        }
    }

    /** After so many calls there are too few left for a whole reading. */
    private static void compareLook(int base, OrderTests x) {
        int[] now = new int[9 + LOOK_READINGS];
        int[] untouched = new int[9 + LOOK_READINGS];
        readLook(x, now, readAbout(x, now, 0));
        OrderTests y = made(base);
        readLook(y, untouched, readAbout(y, untouched, 0));
        compare(base, "all of them", now, untouched);
    }

    // ---- The objects

    private static OrderTests made(int base) {
        OrderTests x = new OrderTests();
        if (base == HALF) {
            makeHalf(x);
        } else if (base == FULL) {
            makeFull(x);
        }
        return x;
    }

    /** A look at two VERTICES with two ENDS; then there is a third one, and by the lesser there would be one END. */
    private static void makeHalf(OrderTests x) {
        x.vertex(15);
        x.vertex(0);
        x.arc(0, 1, 3);
        x.arc(1, 1, 15);
        x.first(0, 5);
        x.first(1, 6);
        x.set(0, 4);
        x.set(1, 2);
        x.table(3, 4, 15);
        x.table(0, 0, 7);
        x.look(600);
        x.vertex(9);
        x.set(0, 1);
        x.value(1, 14);
    }

    /** As many of all as can be. VERTICES 1, 3 and 4 hear of the FIRST MESSAGES, ARC 7 is used: a look has 6 ENDS. */
    private static void makeFull(OrderTests x) {
        for (int v = 0; v < 5; v++) {
            x.vertex(3 * v);
        }
        int[][] arcs = {{0, 1, 15}, {1, 2, 1}, {2, 3, 2}, {3, 4, 3}, {0, 2, 4}, {2, 1, 5}, {0, 1, 6}, {2, 3, 7}};
        for (int[] arc : arcs) {
            x.arc(arc[0], arc[1], arc[2]);
        }
        x.first(4, 2);
        x.first(2, 9);
        x.first(2, 9);
        x.first(2, 9);
        x.set(0, 4);
        x.set(1, 2);
        x.set(4, 1);
        x.table(3, 4, 15);
        x.table(15, 15, 8);
        x.look(600);
        x.set(2, 1);
    }

    /** A reading of objects without ENDS would tell little. */
    private static void basesHaveEnds() {
        int[] ends = {NONE, 2, 6};
        int[] endsThen = {1, 1, 6};
        for (int base = EMPTY; base <= FULL; base++) {
            OrderTests x = made(base);
            if (x.looked(1) != ends[base] || x.look(600) == 600 || x.looked(1) != endsThen[base]) {
                wrong++;
                System.out.println("when " + NAMES[base] + ", there are other ENDS than meant");
            }
        }
    }

    // ---- The calls that are refused

    private static Calls refusedAnyway() {
        Calls calls = new Calls();
        calls.withEach(Method.VERTEX, OUTSIDE, -1, 16, LOW, HIGH);
        calls.with(Method.ARC, UNKNOWN, -1, 0, 0).with(Method.ARC, UNKNOWN, 0, -1, 0);
        calls.with(Method.ARC, UNKNOWN, 5, 0, 0).with(Method.ARC, UNKNOWN, 0, 5, 0);
        calls.with(Method.ARC, UNKNOWN, LOW, HIGH, 0).with(Method.ARC, UNKNOWN, 5, 5, 16);
        calls.with(Method.ARC, UNKNOWN, 0, 5, -1).with(Method.ARC, UNKNOWN, -1, 0, 16);
        calls.with(Method.FIRST, UNKNOWN, -1, 0).with(Method.FIRST, UNKNOWN, 5, 0);
        calls.with(Method.FIRST, UNKNOWN, -1, -1).with(Method.FIRST, UNKNOWN, 5, 16);
        calls.with(Method.VALUE, UNKNOWN, -1, 0).with(Method.VALUE, UNKNOWN, 5, 0);
        calls.with(Method.VALUE, UNKNOWN, -1, -1).with(Method.VALUE, UNKNOWN, 5, 16);
        refusedSettings(calls);
        calls.with(Method.TABLE, OUTSIDE, -1, 0, 1).with(Method.TABLE, OUTSIDE, 16, 0, 1);
        calls.with(Method.TABLE, OUTSIDE, 0, -1, 1).with(Method.TABLE, OUTSIDE, 0, 16, 1);
        calls.with(Method.TABLE, OUTSIDE, 3, 4, -1).with(Method.TABLE, OUTSIDE, 3, 4, 16);
        calls.with(Method.TABLE, OUTSIDE, 16, 16, 16).with(Method.TABLE, OUTSIDE, LOW, HIGH, 0);
        calls.with(Method.FOLD, OUTSIDE, -1, 0).with(Method.FOLD, OUTSIDE, 16, 0);
        calls.with(Method.FOLD, OUTSIDE, 0, -1).with(Method.FOLD, OUTSIDE, 0, 16);
        calls.with(Method.OUT, OUTSIDE, -1, 0).with(Method.OUT, OUTSIDE, 16, 0);
        calls.with(Method.OUT, OUTSIDE, 0, -1).with(Method.OUT, OUTSIDE, 0, 16);
        calls.withEach(Method.LAW, OUTSIDE, -1, 7, LOW, HIGH);
        calls.withEach(Method.ABOUT, OUTSIDE, -1, 9, LOW, HIGH);
        calls.withEach(Method.LOOK, OUTSIDE, 0, -1, 601, LOW, HIGH);
        calls.withEach(Method.LOOKED, OUTSIDE, -1, 4, LOW, HIGH);
        calls.withEach(Method.SHRINK, OUTSIDE, 0, -1, 601, LOW, HIGH);
        calls.with(Method.SHRINK, NONE, 1);
        calls.with(Method.END, UNKNOWN, -1, 0).with(Method.END, UNKNOWN, 600, 0).with(Method.END, UNKNOWN, 0, 5);
        calls.with(Method.END, UNKNOWN, 0, -1).with(Method.END, UNKNOWN, LOW, HIGH);
        calls.with(Method.WAY, UNKNOWN, -1, -1, 0).with(Method.WAY, UNKNOWN, 600, -1, 0);
        calls.with(Method.WAY, UNKNOWN, 0, -2, 0).with(Method.WAY, UNKNOWN, 0, 600, 0);
        calls.with(Method.WAY, UNKNOWN, 0, -2, 3).with(Method.WAY, UNKNOWN, 600, 0, -1);
        return calls;
    }

    private static void refusedSettings(Calls calls) {
        int[] least = {0, 0, 0, 1, 0, 0};
        int[] greatest = {9, 4, 1, 16, 1, 2};
        for (int what = 0; what < 6; what++) {
            calls.with(Method.SET, OUTSIDE, what, least[what] - 1).with(Method.SET, OUTSIDE, what, greatest[what] + 1);
        }
        calls.with(Method.SET, OUTSIDE, -1, 1).with(Method.SET, OUTSIDE, 6, 1).with(Method.SET, OUTSIDE, LOW, HIGH);
    }

    private static void refusedOfEmpty(Calls calls) {
        calls.with(Method.ARC, UNKNOWN, 0, 0, 0).with(Method.ARC, UNKNOWN, 0, 0, 16);
        calls.with(Method.FIRST, UNKNOWN, 0, 0).with(Method.FIRST, UNKNOWN, 0, 16);
        calls.with(Method.VALUE, UNKNOWN, 0, 0).with(Method.VALUE, UNKNOWN, 0, 16);
        calls.withEach(Method.LOOKED, NONE, 0, 1, 2, 3);
        calls.with(Method.SHRINK, NONE, 600);
        calls.with(Method.END, UNKNOWN, 0, 0);
        calls.with(Method.WAY, UNKNOWN, 0, -1, 0).with(Method.WAY, UNKNOWN, 0, 0, 0).with(Method.WAY, UNKNOWN, 0, 0, 3);
    }

    private static void refusedOfHalf(Calls calls) {
        calls.with(Method.ARC, OUTSIDE, 0, 1, -1).with(Method.ARC, OUTSIDE, 2, 2, 16);
        calls.with(Method.ARC, UNKNOWN, 3, 0, 0).with(Method.ARC, UNKNOWN, 0, 3, 16);
        calls.with(Method.FIRST, OUTSIDE, 0, -1).with(Method.FIRST, OUTSIDE, 2, 16);
        calls.with(Method.FIRST, UNKNOWN, 3, 0).with(Method.FIRST, UNKNOWN, 3, 16);
        calls.with(Method.VALUE, OUTSIDE, 0, -1).with(Method.VALUE, OUTSIDE, 2, 16);
        calls.with(Method.VALUE, UNKNOWN, 3, 0).with(Method.VALUE, UNKNOWN, 3, 16);
        calls.with(Method.SHRINK, NONE, 600);
        calls.with(Method.END, UNKNOWN, 0, 2).with(Method.END, UNKNOWN, 0, 3);
        calls.with(Method.WAY, OUTSIDE, 0, 0, 3).with(Method.WAY, OUTSIDE, 1, 0, -1);
    }

    private static void refusedOfFull(Calls calls) {
        calls.withEach(Method.VERTEX, ROOM, 0, 15);
        calls.with(Method.ARC, ROOM, 0, 0, 0).with(Method.ARC, ROOM, 4, 4, 15);
        calls.with(Method.ARC, OUTSIDE, 0, 0, -1).with(Method.ARC, OUTSIDE, 4, 4, 16);
        calls.with(Method.FIRST, ROOM, 0, 0).with(Method.FIRST, ROOM, 4, 15);
        calls.with(Method.FIRST, OUTSIDE, 0, -1).with(Method.FIRST, OUTSIDE, 4, 16);
        calls.with(Method.VALUE, OUTSIDE, 0, -1).with(Method.VALUE, OUTSIDE, 4, 16);
        calls.with(Method.WAY, OUTSIDE, 0, 0, 3).with(Method.WAY, OUTSIDE, 1, 2, -1);
    }

    // ---- All that can be asked

    /** The look that there was, a new one, what shrink makes of it, the VALUES to begin with, and THE TABLE. */
    private static int[] reading(OrderTests x) {
        int[] all = new int[READINGS];
        int at = readLook(x, all, readAbout(x, all, 0));
        all[at++] = x.shrink(600);
        all[at++] = x.look(600);
        at = readEnds(x, all, at);
        for (int v = 0; v < 5; v++) {
            all[at++] = x.value(v, 0);
        }
        all[at++] = x.set(0, 9);
        for (int cell = 0; cell < 256; cell++) {
            all[at++] = x.fold(cell / 16, cell % 16);
        }
        return all;
    }

    private static int readAbout(OrderTests x, int[] all, int from) {
        int at = from;
        for (int what = 0; what < 9; what++) {
            all[at++] = x.about(what);
        }
        return at;
    }

    private static int readLook(OrderTests x, int[] all, int from) {
        int at = readEnds(x, all, from);
        for (int k = 0; k < 3; k++) {
            all[at++] = x.way(k, -1, 0);
            for (int i = 0; i < 24; i++) {
                all[at++] = x.way(k, i / 3, i % 3);
            }
        }
        return at;
    }

    private static int readEnds(OrderTests x, int[] all, int from) {
        int at = from;
        for (int what = 0; what < 4; what++) {
            all[at++] = x.looked(what);
        }
        for (int k = 0; k < 3; k++) {
            for (int v = 0; v < 6; v++) {
                all[at++] = x.end(k, v);
            }
        }
        return at;
    }
}
