/**
 * For each sentence of the document that bounds a number, a test of its own: what is just inside, what is just
 * outside on both sides, empty, full, and where a sum or a product goes beyond 15. Looks have LookBoundsTest,
 * refusals as such have RefusalsTest. No object is used for more than the 512 calls of the document.
 */
public final class BoundsTest {
    private static final int NONE = OrderTests.NONE;
    private static final int UNKNOWN = OrderTests.UNKNOWN;
    private static final int OUTSIDE = OrderTests.OUTSIDE;
    private static final int ROOM = OrderTests.ROOM;
    private static final int LOW = Integer.MIN_VALUE;
    private static final int HIGH = Integer.MAX_VALUE;
    /** No VALUES and no WEIGHTS: the nearest, some whose last four bits alone would be one, and the farthest. */
    private static final int[] NO_VALUES = {-1, 16, -16, 31, 256, 65536, LOW, LOW + 1, HIGH - 15, HIGH};

    private static final int FOLD_KIND = 0;
    private static final int OUT_KIND = 1;
    private static final int SENDS = 3;
    private static final int LATER = 4;
    private static final int BY_TABLE = 9;

    private static int wrong = 0;
    private static String sentence = "";

    private static void says(String said) {
        sentence = said;
    }

    private static void due(String call, int got, int want) {
        if (got != want) {
            wrong++;
            System.out.println("'" + sentence + "': " + call + " answered " + got + ", due is " + want);
        }
    }

    public static void main(String[] args) {
        newObject();
        atMostFiveVertices();
        valueToBeginWith();
        atMostEightArcs();
        arcToTheSameVertex();
        arcBetweenVertices();
        weights();
        atMostFourFirsts();
        firstToAVertex();
        firstValues();
        foldSum();
        foldTwice();
        foldEqualAndFarthest();
        foldArguments();
        outSum();
        outProduct();
        outEqualAndFarthest();
        outArguments();
        tableAtFirst();
        tableCells();
        tableArguments();
        settingsAtFirst();
        settingNumbers();
        settingBounds();
        valueOfAVertex();
        lawNumbers();
        lawHolds();
        lawLeast();
        lawGreatest();
        lawNotAbove();
        aboutNumbers();
        lastOf512Calls();
        System.out.println(wrong == 0 ? "all answers are as due" : wrong + " answers are not as due");
        if (wrong != 0) {
            System.exit(1);
        }
    }

    private static OrderTests withVertices(int... values) {
        OrderTests x = new OrderTests();
        for (int v : values) {
            x.vertex(v);
        }
        return x;
    }

    private static OrderTests byFold(int kind) {
        OrderTests x = new OrderTests();
        x.set(FOLD_KIND, kind);
        return x;
    }

    private static OrderTests byOut(int kind) {
        OrderTests x = new OrderTests();
        x.set(OUT_KIND, kind);
        return x;
    }

    // ---- Promise 1

    private static void newObject() {
        says("1: No VERTICES, ARCS, FIRST MESSAGES; no look");
        OrderTests x = new OrderTests();
        due("about(0)", x.about(0), 0);
        due("about(1)", x.about(1), 0);
        due("about(2)", x.about(2), 0);
        for (int what = 0; what <= 3; what++) {
            due("looked(" + what + ")", x.looked(what), NONE);
        }
        due("end(0, 0)", x.end(0, 0), UNKNOWN);
        due("way(0, -1, 0)", x.way(0, -1, 0), UNKNOWN);
        due("arc(0, 0, 0)", x.arc(0, 0, 0), UNKNOWN);
        due("first(0, 0)", x.first(0, 0), UNKNOWN);
        due("value(0, 0)", x.value(0, 0), UNKNOWN);
        due("vertex(0), the first one", x.vertex(0), 0);
        due("arc(0, 0, 0), the first one", x.arc(0, 0, 0), 0);
        due("first(0, 0), the first one", x.first(0, 0), 0);
    }

    // ---- Promises 2 to 4, and the bounds of VERTICES, ARCS and FIRST MESSAGES

    private static void atMostFiveVertices() {
        says("VERTICES 0, 1, .. (5 at most)");
        OrderTests x = new OrderTests();
        for (int number = 0; number < 5; number++) {
            due("value of " + number + ", before it is", x.value(number, 0), UNKNOWN);
            due("vertex(" + number + ")", x.vertex(number), number);
            due("about(0)", x.about(0), number + 1);
        }
        due("the sixth", x.vertex(0), ROOM);
        due("the seventh", x.vertex(15), ROOM);
        due("about(0)", x.about(0), 5);
        due("value of the fifth", x.value(4, 0), 4);
        due("value of a sixth", x.value(5, 0), UNKNOWN);
    }

    private static void valueToBeginWith() {
        says("2: A VERTEX: its number. OUTSIDE (a VALUE is 0 .. 15)");
        OrderTests x = new OrderTests();
        for (int v : NO_VALUES) {
            due("vertex(" + v + ")", x.vertex(v), OUTSIDE);
        }
        due("about(0)", x.about(0), 0);
        due("vertex(0)", x.vertex(0), 0);
        due("vertex(15)", x.vertex(15), 1);
        x.look(1);
        due("the least begins", x.end(0, 0), 0);
        due("the greatest begins", x.end(0, 1), 15);
    }

    private static void atMostEightArcs() {
        says("ARCS 0, 1, .. (8 at most)");
        OrderTests x = withVertices(0, 0, 0);
        for (int number = 0; number < 7; number++) {
            due("arc " + number, x.arc(2, 2, 0), number);
            due("about(1)", x.about(1), number + 1);
        }
        due("the eighth", x.arc(0, 1, 0), 7);
        due("the ninth", x.arc(0, 1, 0), ROOM);
        due("the tenth", x.arc(1, 0, 15), ROOM);
        due("about(1)", x.about(1), 8);
        x.first(0, 1);
        due("states: by the eighth, and not by a ninth", x.look(600), 3);
        due("the eighth has a message", x.way(0, 1, 0), 7);
    }

    private static void arcToTheSameVertex() {
        says("ARCS lead from a VERTEX to one (it may be the same)");
        OrderTests x = withVertices(0, 0, 0, 0, 0);
        due("arc(4, 4, 0)", x.arc(4, 4, 0), 0);
        due("arc(0, 0, 0)", x.arc(0, 0, 0), 1);
        x.first(4, 3);
        x.look(600);
        due("what it sent came back to it", x.end(0, 4), 6);
        due("over its arc", x.way(0, 1, 0), 0);
        due("the other loop is not used", x.end(0, 0), 0);
    }

    private static void arcBetweenVertices() {
        says("3: UNKNOWN (from or to is no VERTEX)");
        OrderTests x = withVertices(0, 0);
        int[] noVertices = {-1, 2, 5, LOW, HIGH};
        for (int no : noVertices) {
            due("arc(" + no + ", 0, 0)", x.arc(no, 0, 0), UNKNOWN);
            due("arc(1, " + no + ", 0)", x.arc(1, no, 0), UNKNOWN);
            due("arc(" + no + ", " + no + ", 0)", x.arc(no, no, 0), UNKNOWN);
        }
        due("about(1)", x.about(1), 0);
        due("arc(1, 0, 0)", x.arc(1, 0, 0), 0);
        due("arc(0, 1, 0)", x.arc(0, 1, 0), 1);
        OrderTests full = withVertices(0, 0, 0, 0, 0);
        due("arc(0, 4, 0)", full.arc(0, 4, 0), 0);
        due("arc(4, 0, 0)", full.arc(4, 0, 0), 1);
        due("arc(5, 0, 0)", full.arc(5, 0, 0), UNKNOWN);
        due("arc(0, 5, 0)", full.arc(0, 5, 0), UNKNOWN);
    }

    private static void weights() {
        says("with a WEIGHT 0 .. 15");
        OrderTests x = withVertices(0, 0, 0);
        for (int w : NO_VALUES) {
            due("arc(0, 1, " + w + ")", x.arc(0, 1, w), OUTSIDE);
        }
        due("about(1)", x.about(1), 0);
        due("arc(0, 1, 0)", x.arc(0, 1, 0), 0);
        due("arc(0, 2, 15)", x.arc(0, 2, 15), 1);
        x.first(0, 1);
        x.set(OUT_KIND, 3);
        x.look(600);
        due("the greater of 1 and 0 came", x.end(0, 1), 1);
        due("the greater of 1 and 15 came", x.end(0, 2), 15);
    }

    private static void atMostFourFirsts() {
        says("FIRST MESSAGES 0, 1, .. (4 at most)");
        OrderTests x = withVertices(0);
        for (int number = 0; number < 4; number++) {
            due("first " + number, x.first(0, 1 << number), number);
            due("about(2)", x.about(2), number + 1);
        }
        due("the fifth", x.first(0, 1), ROOM);
        due("the sixth", x.first(0, 15), ROOM);
        due("about(2)", x.about(2), 4);
        x.look(600);
        due("the sum of four", x.end(0, 0), 15);
        due("four steps", x.way(0, -1, 0), 4);
        due("the fourth of them", x.way(0, 3, 0), 103);
    }

    private static void firstToAVertex() {
        says("4: UNKNOWN (to is no VERTEX)");
        OrderTests x = withVertices(0, 0, 0, 0);
        int[] noVertices = {-1, 4, 5, LOW, HIGH};
        for (int no : noVertices) {
            due("first(" + no + ", 0)", x.first(no, 0), UNKNOWN);
        }
        due("about(2)", x.about(2), 0);
        due("first(3, 0)", x.first(3, 0), 0);
        due("first(0, 0)", x.first(0, 0), 1);
        x.vertex(0);
        due("first(4, 7), now there is one", x.first(4, 7), 2);
        due("first(5, 0)", x.first(5, 0), UNKNOWN);
        x.look(600);
        due("it came to the fifth", x.end(0, 4), 7);
    }

    private static void firstValues() {
        says("FIRST MESSAGES are to a VERTEX, with a VALUE");
        OrderTests x = withVertices(5, 5);
        for (int v : NO_VALUES) {
            due("first(0, " + v + ")", x.first(0, v), OUTSIDE);
        }
        due("about(2)", x.about(2), 0);
        due("first(0, 0)", x.first(0, 0), 0);
        due("first(1, 15)", x.first(1, 15), 1);
        x.set(FOLD_KIND, LATER);
        x.look(600);
        due("the least came", x.end(0, 0), 0);
        due("the greatest came", x.end(0, 1), 15);
        due("the way tells the least", x.way(0, 0, 1), 0);
        due("the way tells the greatest", x.way(0, 1, 1), 15);
    }

    // ---- FOLD and OUT, promises 8 and 9

    private static void foldSum() {
        says("FOLD: 0 a + b (modulo 16)");
        OrderTests x = byFold(0);
        due("0 + 0", x.fold(0, 0), 0);
        due("0 + 15", x.fold(0, 15), 15);
        due("8 + 7", x.fold(8, 7), 15);
        due("8 + 8", x.fold(8, 8), 0);
        due("1 + 15", x.fold(1, 15), 0);
        due("15 + 1", x.fold(15, 1), 0);
        due("2 + 15", x.fold(2, 15), 1);
        due("15 + 15", x.fold(15, 15), 14);
        OrderTests y = withVertices(15, 8);
        y.first(0, 1);
        y.first(1, 7);
        y.look(600);
        due("15 + 1, as it comes", y.end(0, 0), 0);
        due("8 + 7, as it comes", y.end(0, 1), 15);
    }

    private static void foldTwice() {
        says("FOLD: 6 2 a + b (modulo 16)");
        OrderTests x = byFold(6);
        due("2 * 0 + 15", x.fold(0, 15), 15);
        due("2 * 7 + 1", x.fold(7, 1), 15);
        due("2 * 7 + 2", x.fold(7, 2), 0);
        due("2 * 8 + 0", x.fold(8, 0), 0);
        due("2 * 8 + 15", x.fold(8, 15), 15);
        due("2 * 15 + 1", x.fold(15, 1), 15);
        due("2 * 15 + 2, twice beyond", x.fold(15, 2), 0);
        due("2 * 15 + 15", x.fold(15, 15), 13);
        OrderTests y = withVertices(15, 7);
        y.first(0, 15);
        y.first(1, 2);
        y.set(FOLD_KIND, 6);
        y.look(600);
        due("2 * 15 + 15, as it comes", y.end(0, 0), 13);
        due("2 * 7 + 2, as it comes", y.end(0, 1), 0);
    }

    private static void foldEqualAndFarthest() {
        says("FOLD by KINDS 1 to 5, 7 and 8");
        // FOLD (0, 15), (15, 0), (0, 0), (15, 15), (7, 8), (8, 8) by each of these.
        int[][] pairs = {{0, 15}, {15, 0}, {0, 0}, {15, 15}, {7, 8}, {8, 8}};
        int[] kinds = {1, 2, 3, 4, 5, 7, 8};
        int[][] dues = {{0, 0, 0, 15, 7, 8}, {15, 15, 0, 15, 8, 8}, {15, 15, 0, 0, 15, 0}, {15, 0, 0, 15, 8, 8},
            {0, 15, 0, 15, 7, 8}, {0, 0, 0, 15, 0, 8}, {15, 15, 0, 15, 15, 8}};
        for (int i = 0; i < kinds.length; i++) {
            OrderTests x = byFold(kinds[i]);
            for (int p = 0; p < pairs.length; p++) {
                due("kind " + kinds[i] + " of " + pairs[p][0] + ", " + pairs[p][1], x.fold(pairs[p][0], pairs[p][1]),
                    dues[i][p]);
            }
        }
    }

    private static void foldArguments() {
        says("8: FOLD (a, b). OUTSIDE");
        for (int kind = 0; kind <= 9; kind++) {
            OrderTests x = byFold(kind);
            for (int no : NO_VALUES) {
                due("fold(" + no + ", 0) by kind " + kind, x.fold(no, 0), OUTSIDE);
                due("fold(15, " + no + ") by kind " + kind, x.fold(15, no), OUTSIDE);
                due("fold(" + no + ", " + no + ") by kind " + kind, x.fold(no, no), OUTSIDE);
            }
        }
    }

    private static void outSum() {
        says("OUT: 1 y + w (modulo 16)");
        OrderTests x = byOut(1);
        due("0 + 0", x.out(0, 0), 0);
        due("15 + 0", x.out(15, 0), 15);
        due("8 + 7", x.out(8, 7), 15);
        due("8 + 8", x.out(8, 8), 0);
        due("15 + 1", x.out(15, 1), 0);
        due("1 + 15", x.out(1, 15), 0);
        due("15 + 15", x.out(15, 15), 14);
        OrderTests y = withVertices(0, 0, 0);
        y.arc(0, 1, 15);
        y.arc(0, 2, 12);
        y.first(0, 3);
        y.set(OUT_KIND, 1);
        y.look(600);
        due("3 + 15, as it is sent", y.end(0, 1), 2);
        due("3 + 12, as it is sent", y.end(0, 2), 15);
    }

    private static void outProduct() {
        says("OUT: 4 y times w (modulo 16)");
        OrderTests x = byOut(4);
        due("0 times 15", x.out(0, 15), 0);
        due("15 times 0", x.out(15, 0), 0);
        due("1 times 15", x.out(1, 15), 15);
        due("3 times 5", x.out(3, 5), 15);
        due("4 times 4", x.out(4, 4), 0);
        due("2 times 8", x.out(2, 8), 0);
        due("17 is 1 beyond: 3 times 11 is 33", x.out(3, 11), 1);
        due("15 times 15", x.out(15, 15), 1);
        due("14 times 15", x.out(14, 15), 2);
        OrderTests y = withVertices(0, 9, 9);
        y.arc(0, 1, 15);
        y.arc(0, 2, 0);
        y.first(0, 15);
        y.set(FOLD_KIND, LATER);
        y.set(OUT_KIND, 4);
        y.look(600);
        due("15 times 15, as it is sent", y.end(0, 1), 1);
        due("15 times 0, as it is sent", y.end(0, 2), 0);
    }

    private static void outEqualAndFarthest() {
        says("OUT: 0 y; 2 the lesser; 3 the greater");
        int[][] pairs = {{0, 15}, {15, 0}, {0, 0}, {15, 15}, {7, 8}, {8, 8}};
        int[] kinds = {0, 2, 3};
        int[][] dues = {{0, 15, 0, 15, 7, 8}, {0, 0, 0, 15, 7, 8}, {15, 15, 0, 15, 8, 8}};
        for (int i = 0; i < kinds.length; i++) {
            OrderTests x = byOut(kinds[i]);
            for (int p = 0; p < pairs.length; p++) {
                due("kind " + kinds[i] + " of " + pairs[p][0] + ", " + pairs[p][1], x.out(pairs[p][0], pairs[p][1]),
                    dues[i][p]);
            }
        }
    }

    private static void outArguments() {
        says("9: OUT (y, w). OUTSIDE");
        for (int kind = 0; kind <= 4; kind++) {
            OrderTests x = byOut(kind);
            for (int no : NO_VALUES) {
                due("out(" + no + ", 0) by kind " + kind, x.out(no, 0), OUTSIDE);
                due("out(15, " + no + ") by kind " + kind, x.out(15, no), OUTSIDE);
                due("out(" + no + ", " + no + ") by kind " + kind, x.out(no, no), OUTSIDE);
            }
        }
    }

    // ---- THE TABLE, promise 6

    private static void tableAtFirst() {
        says("THE TABLE (at first 0 for all)");
        OrderTests x = byFold(BY_TABLE);
        OrderTests y = new OrderTests();
        for (int a = 0; a < 16; a++) {
            for (int b = 0; b < 16; b++) {
                due("fold(" + a + ", " + b + ")", x.fold(a, b), 0);
                due("table(" + a + ", " + b + ", 15)", y.table(a, b, 15), 0);
            }
        }
    }

    private static void tableCells() {
        says("6: THE TABLE tells c for a, b: what it told");
        int[][] corners = {{0, 0}, {0, 15}, {15, 0}, {15, 15}, {0, 1}, {1, 0}, {14, 15}, {15, 14}};
        for (int[] told : corners) {
            OrderTests x = byFold(BY_TABLE);
            String cell = "(" + told[0] + ", " + told[1] + ")";
            due("table" + cell + " to 15", x.table(told[0], told[1], 15), 0);
            for (int[] c : corners) {
                due("after " + cell + " fold(" + c[0] + ", " + c[1] + ")", x.fold(c[0], c[1]), c == told ? 15 : 0);
            }
            due("table" + cell + " to 0", x.table(told[0], told[1], 0), 15);
            due("table" + cell + " to 1", x.table(told[0], told[1], 1), 0);
            due("fold" + cell, x.fold(told[0], told[1]), 1);
        }
    }

    private static void tableArguments() {
        says("6: OUTSIDE (a, b and c are VALUES)");
        OrderTests x = byFold(BY_TABLE);
        x.table(0, 0, 3);
        x.table(15, 15, 4);
        for (int no : NO_VALUES) {
            due("table(" + no + ", 0, 0)", x.table(no, 0, 0), OUTSIDE);
            due("table(0, " + no + ", 0)", x.table(0, no, 0), OUTSIDE);
            due("table(0, 0, " + no + ")", x.table(0, 0, no), OUTSIDE);
            due("table(15, 15, " + no + ")", x.table(15, 15, no), OUTSIDE);
            due("table(" + no + ", " + no + ", " + no + ")", x.table(no, no, no), OUTSIDE);
        }
        due("fold(0, 0)", x.fold(0, 0), 3);
        due("fold(15, 15)", x.fold(15, 15), 4);
        for (int a = 0; a < 16; a++) {
            for (int b = 0; b < 16; b++) {
                boolean isTold = a == b && (a == 0 || a == 15);
                due("fold(" + a + ", " + b + ")", x.fold(a, b), isTold ? 3 + a / 15 : 0);
            }
        }
    }

    // ---- The SETTINGS, promise 5

    private static void settingsAtFirst() {
        says("SETTINGS: 0 at first, SENDS 1 at first");
        int[] atFirst = {0, 0, 0, 1, 0, 0};
        OrderTests x = new OrderTests();
        for (int what = 0; what < 6; what++) {
            due("about(" + (3 + what) + ")", x.about(3 + what), atFirst[what]);
            due("set(" + what + ", 1)", x.set(what, 1), atFirst[what]);
            due("about(" + (3 + what) + ") then", x.about(3 + what), 1);
        }
    }

    private static void settingNumbers() {
        says("5: SETTING 0 .. 5. OUTSIDE");
        OrderTests x = new OrderTests();
        int[] no = {-1, 6, 7, 100, LOW, HIGH};
        for (int what : no) {
            due("set(" + what + ", 1)", x.set(what, 1), OUTSIDE);
            due("set(" + what + ", 0)", x.set(what, 0), OUTSIDE);
        }
        int[] atFirst = {0, 0, 0, 1, 0, 0};
        for (int what = 0; what < 6; what++) {
            due("about(" + (3 + what) + ")", x.about(3 + what), atFirst[what]);
        }
    }

    private static void settingBounds() {
        String[] said = {"FOLD'S KIND (0 .. 9)", "OUT'S KIND (0 .. 4)", "ALWAYS (0 or 1)", "SENDS (1 .. 16)",
            "ROWS (0 or 1)", "DOUBLES (0 .. 2)"};
        int[] least = {0, 0, 0, 1, 0, 0};
        int[] greatest = {9, 4, 1, 16, 1, 2};
        for (int what = 0; what < 6; what++) {
            says(said[what]);
            OrderTests x = new OrderTests();
            due("to the greatest", x.set(what, greatest[what]), least[what]);
            int[] no = {least[what] - 1, greatest[what] + 1, LOW, HIGH};
            for (int v : no) {
                due("to " + v, x.set(what, v), OUTSIDE);
                due("after a refusal", x.about(3 + what), greatest[what]);
            }
            due("to the least", x.set(what, least[what]), greatest[what]);
            for (int v : no) {
                due("to " + v, x.set(what, v), OUTSIDE);
                due("after a refusal", x.about(3 + what), least[what]);
            }
            for (int other = 0; other < 6; other++) {
                due("the others stay", x.about(3 + other), least[other]);
            }
        }
    }

    // ---- Promise 7

    private static void valueOfAVertex() {
        says("7: The VALUE of a VERTEX to begin with becomes v: what it was. UNKNOWN, OUTSIDE");
        OrderTests x = withVertices(1, 2, 3, 4);
        int[] noVertices = {-1, 4, 5, LOW, HIGH};
        for (int no : noVertices) {
            due("value(" + no + ", 0)", x.value(no, 0), UNKNOWN);
        }
        for (int no : NO_VALUES) {
            due("value(0, " + no + ")", x.value(0, no), OUTSIDE);
            due("value(3, " + no + ")", x.value(3, no), OUTSIDE);
        }
        due("value(0, 15)", x.value(0, 15), 1);
        due("value(3, 0)", x.value(3, 0), 4);
        int[] dues = {15, 2, 3, 0};
        x.look(1);
        for (int v = 0; v < 4; v++) {
            due("it begins, " + v, x.end(0, v), dues[v]);
        }
        due("value(0, 0)", x.value(0, 0), 15);
        due("value(3, 15)", x.value(3, 15), 0);
        x.vertex(9);
        due("value(4, 0), now there is one", x.value(4, 0), 9);
    }

    // ---- Promise 10

    private static void lawNumbers() {
        says("10: laws 0 .. 6. OUTSIDE");
        OrderTests x = byFold(1);
        int[] no = {-1, 7, 8, 256, LOW, HIGH};
        for (int which : no) {
            due("law(" + which + ")", x.law(which), OUTSIDE);
        }
        due("law(0)", x.law(0), NONE);
        due("law(6)", x.law(6), NONE);
    }

    /** By the lesser every law holds for all 16 VALUES. */
    private static void lawHolds() {
        says("10: NONE: it holds");
        OrderTests x = byFold(1);
        for (int which = 0; which <= 6; which++) {
            due("law(" + which + ")", x.law(which), NONE);
        }
    }

    private static void tell(OrderTests x, int[][] cells) {
        for (int[] c : cells) {
            x.table(c[0], c[1], c[2]);
        }
    }

    private static OrderTests tableOf(int[][] cells) {
        OrderTests x = byFold(BY_TABLE);
        tell(x, cells);
        return x;
    }

    /** THE TABLE tells a for a, b, but for the cells told here. */
    private static OrderTests almostLeft(int[][] cells) {
        OrderTests x = byFold(BY_TABLE);
        for (int a = 0; a < 16; a++) {
            for (int b = 0; b < 16; b++) {
                x.table(a, b, a);
            }
        }
        tell(x, cells);
        return x;
    }

    private static void lawLeast() {
        says("10: else the least 256 a + 16 b + c (those that a law does not have are 0)");
        // FOLD (0, 0) is 1, (1, 0) is 2, (0, 1) is 3: each law is broken as early as can be.
        OrderTests x = tableOf(new int[][] {{0, 0, 1}, {1, 0, 2}, {0, 1, 3}});
        due("law(0)", x.law(0), 0);
        due("law(1)", x.law(1), 16);
        due("law(2)", x.law(2), 0);
        due("law(4)", x.law(4), 0);
        due("law(6)", x.law(6), 0);
        // FOLD (0, 0) is 1, all else 0: of 0, 0, 1 the one order makes 0, the other 1.
        OrderTests y = tableOf(new int[][] {{0, 0, 1}});
        due("law(3)", y.law(3), 1);
        due("law(5): 0 is not above 1, FOLD (0, 0) is above FOLD (1, 0)", y.law(5), 16);
    }

    private static void lawGreatest() {
        says("10: over all VALUES");
        // FOLD (FOLD (15, 15), 15) is FOLD (14, 15), 0; FOLD (15, FOLD (15, 15)) is FOLD (15, 14), 1.
        OrderTests x = tableOf(new int[][] {{15, 15, 14}, {15, 14, 1}});
        due("law(0) is broken for 15, 15, 15 alone", x.law(0), 4095);
        OrderTests y = tableOf(new int[][] {{15, 14, 1}});
        due("law(1) is broken for 14, 15 at the least", y.law(1), 256 * 14 + 16 * 15);
        OrderTests z = almostLeft(new int[][] {{15, 15, 14}});
        due("law(2) is broken for 15 alone", z.law(2), 256 * 15);
        due("law(4), by 15, 15 and 14, 15, holds", z.law(4), NONE);
        due("law(3), by 15, b, 15, holds", z.law(3), NONE);
        OrderTests u = almostLeft(new int[][] {{15, 15, 14}, {14, 15, 13}, {13, 15, 13}});
        due("law(4) is broken for 15, 15: 13 is not 14", u.law(4), 256 * 15 + 16 * 15);
        OrderTests v = almostLeft(new int[][] {{15, 15, 14}, {14, 14, 13}, {13, 14, 13}});
        due("law(3) is broken for 15, 14, 15: 14 is not 13", v.law(3), 256 * 15 + 16 * 14 + 15);
        OrderTests w = almostLeft(new int[][] {{15, 15, 13}});
        due("law(5) is broken for 14, 15, 15 alone", w.law(5), 256 * 14 + 16 * 15 + 15);
        OrderTests t = almostLeft(new int[][] {{14, 15, 15}});
        due("law(6) is broken for 14, 15 alone", t.law(6), 256 * 14 + 16 * 15);
    }

    private static void lawNotAbove() {
        says("10: 5 if a is not above b, FOLD (a, c) is not above FOLD (b, c); 6 FOLD (a, b) is not above a");
        OrderTests x = almostLeft(new int[][] {{15, 15, 14}});
        due("law(5): FOLD (14, 15) and FOLD (15, 15) are equal", x.law(5), NONE);
        due("law(6): FOLD (a, b) is a, or below", x.law(6), NONE);
        OrderTests y = almostLeft(new int[][] {{7, 9, 8}});
        due("law(5): one more is as the next one has it", y.law(5), NONE);
        due("law(6): one more than a", y.law(6), 256 * 7 + 16 * 9);
        OrderTests z = almostLeft(new int[][] {{7, 9, 9}});
        due("law(5): one more than the next one has", z.law(5), 256 * 7 + 16 * 8 + 9);
        due("law(5) by the greater", byFold(2).law(5), NONE);
        due("law(6) by the greater: 0, 1", byFold(2).law(6), 16);
    }

    // ---- Promise 11

    private static void aboutNumbers() {
        says("11: What = 0 .. 8. OUTSIDE");
        OrderTests x = withVertices(0, 0, 0, 0, 0);
        for (int i = 0; i < 8; i++) {
            x.arc(0, 0, 0);
        }
        for (int i = 0; i < 4; i++) {
            x.first(0, 0);
        }
        int[] greatest = {9, 4, 1, 16, 1, 2};
        for (int what = 0; what < 6; what++) {
            x.set(what, greatest[what]);
        }
        int[] dues = {5, 8, 4, 9, 4, 1, 16, 1, 2};
        for (int what = 0; what <= 8; what++) {
            due("about(" + what + ")", x.about(what), dues[what]);
        }
        int[] no = {-1, 9, 10, 256, LOW, LOW + 3, HIGH};
        for (int what : no) {
            due("about(" + what + ")", x.about(what), OUTSIDE);
        }
    }

    // ---- The bound of the calls

    private static void lastOf512Calls() {
        says("An object is used for at most 512 calls");
        OrderTests x = withVertices(0, 0, 0, 0, 0);
        for (int i = 0; i < 8; i++) {
            x.arc(i % 5, (i + 1) % 5, i);
        }
        for (int i = 0; i < 4; i++) {
            x.first(i, 1 + i);
        }
        x.set(SENDS, 16);
        for (int call = 19; call <= 508; call += 2) {
            due("call " + call + ", look(600)", x.look(600), 600);
            due("call " + (call + 1) + ", shrink(600)", x.shrink(600), NONE);
        }
        x.set(FOLD_KIND, 5);
        due("call 510, looked(3) of the latest look", x.looked(3) > 3 ? 1 : 0, 1);
        due("call 511, look(600): of four any may have come", x.look(600), 16);
        due("call 512, looked(1)", x.looked(1), 1);
    }
}
