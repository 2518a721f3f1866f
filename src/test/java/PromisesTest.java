/** For each promise of the document: ordinary calls, its edges and wrong inputs, with answers worked out by hand. */
public final class PromisesTest {
    private static final int NONE = OrderTests.NONE;
    private static final int UNKNOWN = OrderTests.UNKNOWN;
    private static final int OUTSIDE = OrderTests.OUTSIDE;
    private static final int ROOM = OrderTests.ROOM;
    private static final int LOW = Integer.MIN_VALUE;
    private static final int HIGH = Integer.MAX_VALUE;

    private static final int FOLD_KIND = 0;
    private static final int OUT_KIND = 1;
    private static final int ALWAYS = 2;
    private static final int SENDS = 3;
    private static final int ROWS = 4;
    private static final int DOUBLES = 5;

    private static final int LESSER = 1;
    private static final int LATER = 4;

    private static int wrong = 0;

    private static void due(String call, int got, int want) {
        if (got != want) {
            wrong++;
            System.out.println(call + " answered " + got + ", due is " + want);
        }
    }

    private static void refused(String call, int why, int... answers) {
        for (int i = 0; i < answers.length; i++) {
            due(call + " " + i, answers[i], why);
        }
    }

    public static void main(String[] args) {
        newObject();
        vertex();
        arc();
        first();
        set();
        table();
        value();
        fold();
        out();
        law();
        about();
        look();
        lookTellsSentApart();
        lookSends();
        lookRows();
        lookAlikeMessagesAreOneStep();
        lookWithoutRowsOnlyCounts();
        lookDoubles();
        looked();
        end();
        way();
        shrink();
        shrinkLeavesOutInOrder();
        System.out.println(wrong == 0 ? "all answers are as due" : wrong + " answers are not as due");
        if (wrong != 0) {
            System.exit(1);
        }
    }

    private static OrderTests withVertices(int... values) {
        OrderTests x = new OrderTests();
        for (int v : values) {
            x.vertex(v);
        }
        return x;
    }

    /** One VERTEX that takes what comes last, and two FIRST MESSAGES: 5 STATES, 2 ENDS. */
    private static OrderTests lastOfTwo() {
        OrderTests x = withVertices(0);
        x.first(0, 1);
        x.first(0, 2);
        x.set(FOLD_KIND, LATER);
        return x;
    }

    private static void newObject() {
        OrderTests x = new OrderTests();
        int[] about = {0, 0, 0, 0, 0, 0, 1, 0, 0};
        for (int what = 0; what < about.length; what++) {
            due("new: about(" + what + ")", x.about(what), about[what]);
        }
        for (int what = 0; what < 4; what++) {
            due("new: looked(" + what + ")", x.looked(what), NONE);
        }
        refused("new: no look", UNKNOWN, x.end(0, 0), x.way(0, -1, 0), x.way(0, 0, 0), x.way(0, 0, 9));
        refused("new: no vertices", UNKNOWN, x.arc(0, 0, 0), x.first(0, 0), x.value(0, 0));
        for (int a = 0; a < 16; a++) {
            for (int b = 0; b < 16; b++) {
                due("new: table(" + a + ", " + b + ", 0)", x.table(a, b, 0), 0);
            }
        }
        due("new: look(1)", x.look(1), 1);
        due("new: looked(0)", x.looked(0), 1);
        due("new: looked(1)", x.looked(1), 1);
        due("new: way(0, -1, 0)", x.way(0, -1, 0), 0);
        refused("new: a look without vertices", UNKNOWN, x.end(0, 0), x.way(0, 0, 0));
        OrderTests other = withVertices(3);
        due("one object is not another", x.about(0), 0);
        due("the other", other.about(0), 1);
    }

    private static void vertex() {
        OrderTests x = new OrderTests();
        refused("vertex: outside", OUTSIDE, x.vertex(-1), x.vertex(16), x.vertex(LOW), x.vertex(HIGH));
        due("vertex: none after refusals", x.about(0), 0);
        for (int number = 0; number < 5; number++) {
            due("vertex", x.vertex(number == 0 ? 15 : number - 1), number);
        }
        due("vertex: full", x.vertex(0), ROOM);
        due("vertex: full and outside", x.vertex(16), OUTSIDE);
        due("vertex: still five", x.about(0), 5);
        due("vertex: its value", x.value(0, 1), 15);
        due("vertex: its value", x.value(4, 1), 3);
    }

    private static void arc() {
        OrderTests x = withVertices(0, 0);
        refused("arc: unknown", UNKNOWN, x.arc(2, 0, 0), x.arc(0, 2, 0), x.arc(-1, 0, 0), x.arc(0, -1, 0),
            x.arc(LOW, HIGH, 0), x.arc(0, 2, 16), x.arc(2, 0, -1));
        refused("arc: outside", OUTSIDE, x.arc(0, 1, 16), x.arc(0, 1, -1), x.arc(0, 1, LOW), x.arc(0, 1, HIGH));
        due("arc: none after refusals", x.about(1), 0);
        for (int number = 0; number < 8; number++) {
            due("arc", x.arc(number % 2, number / 4, number + 8), number);
        }
        due("arc: full", x.arc(0, 0, 0), ROOM);
        due("arc: full and outside", x.arc(0, 0, 16), OUTSIDE);
        due("arc: full and unknown", x.arc(0, 2, 16), UNKNOWN);
        due("arc: still eight", x.about(1), 8);
    }

    private static void first() {
        OrderTests x = withVertices(0, 0);
        refused("first: unknown", UNKNOWN, x.first(2, 0), x.first(-1, 0), x.first(LOW, 0), x.first(HIGH, 16));
        refused("first: outside", OUTSIDE, x.first(0, -1), x.first(1, 16), x.first(0, LOW), x.first(0, HIGH));
        due("first: none after refusals", x.about(2), 0);
        for (int number = 0; number < 4; number++) {
            due("first", x.first(number % 2, number == 3 ? 15 : number), number);
        }
        due("first: full", x.first(0, 0), ROOM);
        due("first: full and outside", x.first(0, 16), OUTSIDE);
        due("first: full and unknown", x.first(2, 16), UNKNOWN);
        due("first: still four", x.about(2), 4);
    }

    private static void set() {
        OrderTests x = new OrderTests();
        int[] least = {0, 0, 0, 1, 0, 0};
        int[] greatest = {9, 4, 1, 16, 1, 2};
        refused("set: no such setting", OUTSIDE, x.set(-1, 0), x.set(6, 0), x.set(LOW, 1), x.set(HIGH, 1));
        for (int what = 0; what < 6; what++) {
            int before = least[what];
            for (int v = greatest[what]; v >= least[what]; v--) {
                due("set(" + what + ", " + v + ")", x.set(what, v), before);
                due("set: about", x.about(3 + what), v);
                before = v;
            }
            x.set(what, greatest[what]);
            refused("set: outside, " + what, OUTSIDE, x.set(what, least[what] - 1),
                x.set(what, greatest[what] + 1), x.set(what, LOW), x.set(what, HIGH));
            due("set: a refusal changes nothing", x.about(3 + what), greatest[what]);
        }
    }

    private static void table() {
        OrderTests x = new OrderTests();
        due("table", x.table(3, 4, 15), 0);
        due("table", x.table(4, 3, 7), 0);
        due("table", x.table(15, 15, 1), 0);
        due("table", x.table(0, 0, 2), 0);
        due("table: kind 0 does not ask it", x.fold(3, 4), 7);
        x.set(FOLD_KIND, 9);
        due("table: fold", x.fold(3, 4), 15);
        due("table: fold", x.fold(4, 3), 7);
        due("table: fold", x.fold(15, 15), 1);
        due("table: fold", x.fold(0, 0), 2);
        refused("table: outside", OUTSIDE, x.table(-1, 0, 0), x.table(16, 0, 0), x.table(0, -1, 0), x.table(0, 16, 0),
            x.table(3, 4, -1), x.table(3, 4, 16), x.table(LOW, HIGH, 0), x.table(HIGH, LOW, 0), x.table(3, 4, LOW));
        due("table: what it told", x.table(3, 4, 6), 15);
        due("table: what it told then", x.table(3, 4, 6), 6);
    }

    private static void value() {
        OrderTests x = withVertices(9, 4);
        refused("value: unknown", UNKNOWN, x.value(2, 0), x.value(-1, 0), x.value(LOW, 0), x.value(HIGH, 16));
        refused("value: outside", OUTSIDE, x.value(0, 16), x.value(0, -1), x.value(1, LOW), x.value(1, HIGH));
        x.look(1);
        due("value", x.value(0, 15), 9);
        due("value", x.value(0, 0), 15);
        due("value: the other stays", x.value(1, 4), 4);
        due("value: the look before stays", x.end(0, 0), 9);
        x.look(1);
        due("value: the next look has it", x.end(0, 0), 0);
        due("value: the next look has the other", x.end(0, 1), 4);
    }

    private static void fold() {
        for (int kind = 0; kind <= 9; kind++) {
            for (int a = 0; a < 16; a++) {
                foldOf(kind, a);
            }
        }
        OrderTests x = new OrderTests();
        refused("fold: outside", OUTSIDE, x.fold(-1, 0), x.fold(16, 0), x.fold(0, -1), x.fold(0, 16),
            x.fold(LOW, 0), x.fold(0, HIGH));
    }

    /** A new object for each, so that none is used for more than 512 calls. */
    private static void foldOf(int kind, int a) {
        OrderTests x = new OrderTests();
        x.set(FOLD_KIND, kind);
        for (int b = 0; b < 16; b++) {
            x.table(a, b, (3 * a + 5 * b + 1) % 16);
            int[] dues = {(a + b) % 16, a < b ? a : b, a < b ? b : a, a ^ b, b, a, (2 * a + b) % 16, a & b, a | b,
                (3 * a + 5 * b + 1) % 16};
            due("fold(" + a + ", " + b + ") by kind " + kind, x.fold(a, b), dues[kind]);
        }
    }

    private static void out() {
        for (int kind = 0; kind <= 4; kind++) {
            OrderTests x = new OrderTests();
            x.set(OUT_KIND, kind);
            for (int y = 0; y < 16; y++) {
                for (int w = 0; w < 16; w++) {
                    int[] dues = {y, (y + w) % 16, y < w ? y : w, y < w ? w : y, y * w % 16};
                    due("out(" + y + ", " + w + ") by kind " + kind, x.out(y, w), dues[kind]);
                }
            }
            refused("out: outside", OUTSIDE, x.out(-1, 0), x.out(16, 0), x.out(0, -1), x.out(0, 16),
                x.out(LOW, 0), x.out(0, HIGH));
        }
    }

    private static void law() {
        OrderTests x = new OrderTests();
        refused("law: outside", OUTSIDE, x.law(-1), x.law(7), x.law(LOW), x.law(HIGH));
        laws(x, 0, NONE, NONE, 256, NONE, 16, 31, 16);
        laws(x, 1, NONE, NONE, NONE, NONE, NONE, NONE, NONE);
        laws(x, 4, NONE, 16, NONE, 1, NONE, NONE, 16);
        laws(x, 5, NONE, 16, NONE, NONE, NONE, NONE, NONE);
        // The table is a, but for 15, 15, which is 14.
        for (int a = 0; a < 16; a++) {
            for (int b = 0; b < 16; b++) {
                x.table(a, b, a);
            }
        }
        x.table(15, 15, 14);
        laws(x, 9, 256 * 15 + 15, 16, 256 * 15, NONE, NONE, NONE, NONE);
        x.table(15, 15, 13);
        due("law(5): 14 is not above 15, but its fold with 15 is", x.law(5), 256 * 14 + 16 * 15 + 15);
        x.table(15, 15, 15);
        x.table(14, 0, 15);
        due("law(6): broken once", x.law(6), 256 * 14);
    }

    private static void laws(OrderTests x, int kind, int... dues) {
        x.set(FOLD_KIND, kind);
        for (int which = 0; which < dues.length; which++) {
            due("law(" + which + ") of kind " + kind, x.law(which), dues[which]);
        }
    }

    private static void about() {
        OrderTests x = withVertices(1, 2, 3);
        x.arc(0, 1, 0);
        x.arc(0, 1, 0);
        x.first(0, 0);
        int[] settings = {7, 3, 1, 12, 1, 2};
        for (int what = 0; what < settings.length; what++) {
            x.set(what, settings[what]);
        }
        int[] dues = {3, 2, 1, 7, 3, 1, 12, 1, 2};
        for (int what = 0; what < dues.length; what++) {
            due("about(" + what + ")", x.about(what), dues[what]);
        }
        refused("about: outside", OUTSIDE, x.about(-1), x.about(9), x.about(LOW), x.about(HIGH));
    }

    private static void look() {
        OrderTests x = lastOfTwo();
        refused("look: outside", OUTSIDE, x.look(0), x.look(-1), x.look(601), x.look(LOW), x.look(HIGH));
        due("look: a refused one is none", x.looked(0), NONE);
        // Found in turn: the beginning; 1 came; 2 came; 1, 2 came (an END); 2, 1 came (an END).
        int[] ends = {0, 0, 0, 1, 2, 2};
        for (int n = 1; n <= 6; n++) {
            due("look(" + n + ")", x.look(n), Math.min(n, 5));
            due("look(" + n + "): whole", x.looked(0), n < 5 ? 0 : 1);
            due("look(" + n + "): ends", x.looked(1), ends[n - 1]);
            due("look(" + n + "): no step left", x.looked(2), ends[n - 1]);
        }
        due("look(600)", x.look(600), 5);
        refused("look: outside again", OUTSIDE, x.look(0), x.look(601));
        due("look: the one before a refused one stays", x.looked(1), 2);
    }

    /** By the lesser 3, 2 makes two changes and 2, 3 one: STATES differ in SENT alone, if two can be SENT. */
    private static void lookTellsSentApart() {
        OrderTests x = withVertices(5);
        x.first(0, 3);
        x.first(0, 2);
        x.set(FOLD_KIND, LESSER);
        due("sent: one can be", x.look(600), 4);
        due("sent: one can be", x.looked(2), 1);
        x.set(SENDS, 2);
        due("sent: two can be", x.look(600), 5);
        due("sent: two can be, one END", x.looked(1), 1);
        due("sent: two can be, two STATES", x.looked(2), 2);
        due("sent: the first STATE's way", x.way(0, 0, 0), 100);
    }

    private static void lookSends() {
        // What comes is 0 and changes nothing: it is sent on with ALWAYS alone, round and round.
        OrderTests x = withVertices(0);
        x.arc(0, 0, 0);
        x.first(0, 0);
        due("sends: nothing changed", x.look(600), 2);
        x.set(ALWAYS, 1);
        for (int sends = 1; sends <= 16; sends++) {
            x.set(SENDS, sends);
            due("sends: always, " + sends, x.look(600), 2 + sends);
            due("sends: way, " + sends, x.way(0, -1, 0), 1 + sends);
        }
        // 16 messages on one ARC at once.
        OrderTests y = withVertices(0, 0);
        y.arc(0, 0, 1);
        y.arc(0, 1, 15);
        y.first(0, 1);
        y.set(OUT_KIND, 2);
        y.set(SENDS, 16);
        y.set(ALWAYS, 1);
        y.set(ROWS, 1);
        // i of 17 messages came at 0, and j of the min(i, 16) so sent came at 1: so many pairs.
        due("sends: 16 on an arc", y.look(600), 170);
        due("sends: whole", y.looked(0), 1);
        due("sends: 16 on an arc at once", y.looked(3), 17);
        due("sends: one END", y.looked(1), 1);
        // The sixteenth 1 makes vertex 0 have 0, and of 0 it sends the lesser.
        due("sends: at 0 came 1 sixteen times, then 0", y.end(0, 0), 0);
    }

    private static void lookRows() {
        OrderTests x = withVertices(0, 0);
        x.arc(0, 1, 0);
        x.first(0, 1);
        x.first(0, 2);
        x.set(FOLD_KIND, LATER);
        x.set(SENDS, 2);
        x.look(600);
        due("rows: without, any order", x.looked(1), 4);
        x.set(ROWS, 1);
        x.look(600);
        due("rows: with, none overtakes", x.looked(1), 2);
        due("rows: END 0", x.end(0, 0), 2);
        due("rows: END 0", x.end(0, 1), 2);
        due("rows: END 1", x.end(1, 0), 1);
        due("rows: END 1", x.end(1, 1), 1);
        due("rows: as many steps", x.way(1, -1, 0), 4);
        int[] sources = {101, 100, 0, 0};
        int[] values = {2, 1, 2, 1};
        // After 101 the FIRST MESSAGE 100 is tried before ARC 0.
        for (int i = 0; i < 4; i++) {
            due("rows: step " + i, x.way(1, i, 0), sources[i]);
            due("rows: value " + i, x.way(1, i, 1), values[i]);
        }
    }

    /** With two alike under way on an ARC there is one STEP, and 3, 3 is as 3, 3 however they were sent. */
    private static void lookAlikeMessagesAreOneStep() {
        OrderTests x = withVertices(0, 0);
        x.arc(0, 1, 3);
        x.first(0, 1);
        x.first(0, 1);
        x.set(OUT_KIND, 2);
        x.set(SENDS, 2);
        x.set(FOLD_KIND, 2);
        x.set(ALWAYS, 1);
        // FIRST ones that came: none, 0, 1, both; of what these sent, at 1 came 0; 0 or 1; 0 or 1; 0, 1 or 2.
        // At vertex 1 ALWAYS counts what it SENT, so all of these differ: 1 + 2 * 2 + 3.
        due("alike: states", x.look(600), 8);
        due("alike: ends", x.looked(1), 1);
        due("alike: stepless", x.looked(2), 1);
        due("alike: end", x.end(0, 1), 1);
    }

    /** Whichever way 3, 1, 2 were sent, without ROWS the same VALUES are under way, and the least comes first. */
    private static void lookWithoutRowsOnlyCounts() {
        OrderTests x = withVertices(0, 0);
        x.arc(0, 1, 0);
        x.first(0, 3);
        x.first(0, 1);
        x.first(0, 2);
        x.set(FOLD_KIND, LATER);
        x.set(SENDS, 3);
        // So many came at 0, any of them last, and so many of these at 1, any of them last:
        // 1 for none, 3 * 1 * (1 + 1) for one, 3 * 2 * (1 + 2 + 2) for two, 3 * (1 + 3 + 6 + 3) for three.
        due("counts: states", x.look(600), 1 + 6 + 30 + 39);
        due("counts: ends", x.looked(1), 9);
        due("counts: stepless", x.looked(2), 9);
        due("counts: most", x.looked(3), 3);
        int[] sources = {100, 101, 102, 0, 0, 0};
        int[] values = {3, 1, 2, 1, 2, 3};
        for (int i = 0; i < 6; i++) {
            due("counts: step " + i, x.way(0, i, 0), sources[i]);
            due("counts: value " + i, x.way(0, i, 1), values[i]);
        }
        // What an unfinished look left behind is not in the next one.
        x.look(20);
        due("counts: states again", x.look(600), 76);
        due("counts: twenty are too few", x.shrink(20), NONE);
        due("counts: by the orders at 0 alone", x.shrink(600), 0);
    }

    private static void lookDoubles() {
        OrderTests x = withVertices(0);
        x.first(0, 1);
        x.set(DOUBLES, 1);
        due("doubles: first", x.look(600), 4);
        due("doubles: ends", x.looked(1), 2);
        due("doubles: most", x.looked(3), 1);
        due("doubles: plain end", x.end(0, 0), 1);
        due("doubles: plain way", x.way(0, -1, 0), 1);
        due("doubles: plain step", x.way(0, 0, 2), 0);
        due("doubles: doubled end", x.end(1, 0), 2);
        due("doubles: doubled way", x.way(1, -1, 0), 2);
        due("doubles: doubled step", x.way(1, 0, 2), 1);
        due("doubles: its source", x.way(1, 0, 0), 100);
        due("doubles: then plain", x.way(1, 1, 2), 0);
        x.set(DOUBLES, 2);
        // Plain last, after 0, 1 or 2 doubled: 3 ENDS, 3 STATES before them.
        due("doubles: two", x.look(600), 6);
        due("doubles: two, ends", x.looked(1), 3);
        due("doubles: two, last end", x.end(2, 0), 3);
        due("doubles: the look before keeps its doubles", x.way(2, -1, 0), 3);
        x.set(DOUBLES, 0);
        due("doubles: none", x.look(600), 2);
    }

    private static void looked() {
        OrderTests x = lastOfTwo();
        refused("looked: outside before none", OUTSIDE, x.looked(-1), x.looked(4), x.looked(LOW), x.looked(HIGH));
        due("looked: none", x.looked(0), NONE);
        x.look(600);
        int[] dues = {1, 2, 2, 2};
        for (int what = 0; what < 4; what++) {
            due("looked(" + what + ")", x.looked(what), dues[what]);
        }
        refused("looked: outside", OUTSIDE, x.looked(-1), x.looked(4));
        x.vertex(1);
        x.first(1, 1);
        x.set(FOLD_KIND, 0);
        for (int what = 0; what < 4; what++) {
            due("looked: stays, " + what, x.looked(what), dues[what]);
        }
        // The beginning has three to come; all else has fewer.
        x.look(1);
        due("looked: most", x.looked(3), 3);
        due("looked: not whole", x.looked(0), 0);
        due("looked: no end", x.looked(1), 0);
        // Three arcs of one vertex: one FIRST one becomes three messages.
        OrderTests y = withVertices(0, 0);
        y.arc(0, 1, 0);
        y.arc(0, 1, 0);
        y.arc(0, 1, 0);
        y.first(0, 1);
        y.first(1, 1);
        y.look(600);
        due("looked: most are three and the other FIRST one", y.looked(3), 4);
        y.look(1);
        due("looked: of THE BEGINNING alone", y.looked(3), 2);
    }

    private static void end() {
        OrderTests x = lastOfTwo();
        due("end: no look", x.end(0, 0), UNKNOWN);
        x.look(600);
        due("end 0", x.end(0, 0), 2);
        due("end 1", x.end(1, 0), 1);
        refused("end: unknown", UNKNOWN, x.end(2, 0), x.end(-1, 0), x.end(LOW, 0), x.end(HIGH, 0),
            x.end(0, 1), x.end(0, -1), x.end(0, LOW), x.end(0, HIGH));
        x.vertex(7);
        due("end: a vertex that there was not then", x.end(0, 1), UNKNOWN);
        x.value(0, 9);
        due("end: stays", x.end(0, 0), 2);
        x.look(600);
        due("end: now there is", x.end(0, 1), 7);
        OrderTests y = withVertices(11, 12, 13, 14, 15);
        y.look(1);
        for (int v = 0; v < 5; v++) {
            due("end: vertex " + v, y.end(0, v), 11 + v);
        }
        refused("end: a sixth vertex", UNKNOWN, y.end(0, 5));
    }

    private static void way() {
        OrderTests x = lastOfTwo();
        due("way: no look", x.way(0, -1, 0), UNKNOWN);
        x.look(600);
        due("way: how many", x.way(0, -1, 0), 2);
        due("way: what is not looked at", x.way(0, -1, 99), 2);
        int[][] dues = {{100, 1, 0}, {101, 2, 0}, {101, 2, 0}, {100, 1, 0}};
        for (int i = 0; i < 4; i++) {
            for (int what = 0; what < 3; what++) {
                due("way(" + i / 2 + ", " + i % 2 + ", " + what + ")", x.way(i / 2, i % 2, what), dues[i][what]);
            }
        }
        refused("way: unknown", UNKNOWN, x.way(2, 0, 0), x.way(-1, 0, 0), x.way(LOW, -1, 0), x.way(HIGH, -1, 0),
            x.way(0, 2, 0), x.way(0, -2, 0), x.way(0, LOW, 0), x.way(0, HIGH, 0), x.way(0, 2, 9), x.way(2, 0, 9));
        refused("way: outside", OUTSIDE, x.way(0, 0, -1), x.way(0, 1, 3), x.way(1, 0, LOW), x.way(1, 1, HIGH));
        x.set(FOLD_KIND, 0);
        x.set(DOUBLES, 2);
        x.first(0, 9);
        due("way: stays", x.way(1, 0, 0), 101);
        due("way: stays", x.way(1, -1, 0), 2);
    }

    /** What 2 holds hangs on which of 0 and 1 sends last; what it sends to 3 does not matter. */
    private static OrderTests race(int copies) {
        OrderTests x = withVertices(0, 0, 0, 0);
        x.arc(2, 3, 0);
        for (int i = 0; i < copies; i++) {
            x.arc(0, 2, 0);
        }
        x.arc(1, 2, 0);
        x.first(0, 1);
        x.first(1, 2);
        x.set(FOLD_KIND, LATER);
        return x;
    }

    private static void shrink() {
        OrderTests x = race(1);
        refused("shrink: outside", OUTSIDE, x.shrink(0), x.shrink(-1), x.shrink(601), x.shrink(LOW), x.shrink(HIGH));
        due("shrink: no arc needed, none there", lastOfTwo().shrink(600), 0);
        due("shrink: one state", lastOfTwo().shrink(1), NONE);
        due("shrink: no ends in two states", lastOfTwo().shrink(2), NONE);
        due("shrink: one end in four states", lastOfTwo().shrink(4), NONE);
        due("shrink: two ends in five states", lastOfTwo().shrink(5), 0);
        due("shrink", x.shrink(600), 6);
        due("shrink: is no look", x.looked(0), NONE);
        x.look(3);
        due("shrink: again", x.shrink(600), 6);
        due("shrink: the latest look stays", x.looked(0), 0);
        due("shrink: the latest look stays", x.looked(1), 0);
        due("shrink: the arcs stay", x.about(1), 3);
        x.look(600);
        int states = x.looked(2);
        int length = x.way(1, -1, 0);
        due("shrink: too few states", x.shrink(5), NONE);
        due("shrink: the latest look stays", x.looked(2), states);
        due("shrink: its ways stay", x.way(1, -1, 0), length);
        x.set(FOLD_KIND, LESSER);
        due("shrink: one end", x.shrink(600), NONE);
    }

    private static void shrinkLeavesOutInOrder() {
        due("shrink: of two alike the second stays", race(2).shrink(600), 4 + 8);
        due("shrink: of three alike the third stays", race(3).shrink(600), 8 + 16);
        OrderTests x = lastOfTwo();
        x.vertex(0);
        for (int i = 0; i < 8; i++) {
            x.arc(1, 1, i);
        }
        due("shrink: all eight are left out", x.shrink(600), 0);
    }
}
