/**
 * For each sentence of the document that names a boundary case of STATES, STEPS, looks, ENDS, WAYS and THE LEAST
 * GRAPH, a test of its own, with answers worked out by hand. No object is used for more than 512 calls.
 */
public final class LookBoundsTest {
    private static final int NONE = OrderTests.NONE;
    private static final int UNKNOWN = OrderTests.UNKNOWN;
    private static final int OUTSIDE = OrderTests.OUTSIDE;
    private static final int LOW = Integer.MIN_VALUE;
    private static final int HIGH = Integer.MAX_VALUE;

    private static final int FOLD_KIND = 0;
    private static final int OUT_KIND = 1;
    private static final int ALWAYS = 2;
    private static final int SENDS = 3;
    private static final int ROWS = 4;
    private static final int DOUBLES = 5;

    private static final int LESSER = 1;
    private static final int GREATER = 2;
    private static final int LATER = 4;
    private static final int EARLIER = 5;
    private static final int TWICE = 6;
    private static final int BY_TABLE = 9;
    private static final int SUM_OUT = 1;

    private static int wrong = 0;
    private static String sentence = "";

    private static void says(String said) {
        sentence = said;
    }

    private static void due(String call, int got, int want) {
        if (got != want) {
            wrong++;
            System.out.println("'" + sentence + "': " + call + " answered " + got + ", due is " + want);
        }
    }

    public static void main(String[] args) {
        theBeginning();
        theBeginningIsAsTold();
        stateTellsValues();
        stateTellsSent();
        stateTellsWhichCame();
        stateTellsDoubles();
        stateTellsWhichArc();
        stateTellsHowOften();
        stateTellsTheOrderWithRows();
        stateTellsTheOrderOfMany();
        stepsOfFirstsThenArcs();
        stepsOfRowsAreTheFirst();
        stepsOfTheLeastFirst();
        stepsPlainThenDoubledOfFirsts();
        stepsPlainThenDoubledOfArcs();
        doublesLeft();
        doubledStays();
        firstComesOnce();
        sendsOnlyAChange();
        sendsFewerTimes();
        sendsOnEachArcFromIt();
        sixteenUnderWay();
        sixteenDifferentInARow();
        lookNumbers();
        lookEndsWhenANewOneComes();
        lookOfSixHundred();
        lookOfMore();
        lookIsMadeAnew();
        lookAfterOneNotWhole();
        endsAreDifferentRows();
        endsOfStatesFound();
        endsNumberedAsFound();
        wayToTheFirstState();
        lookedNumbers();
        lookedOfTheLatestNotRefused();
        lookedMost();
        endNumbers();
        endOfAVertexThatWasNot();
        wayNumbers();
        wayOfNoStep();
        wayOfManySteps();
        wayOfTheLatestLook();
        shrinkNumbers();
        shrinkFindsTwo();
        shrinkUpToN();
        shrinkUpToNWithout();
        shrinkOfNoArcs();
        shrinkPowersOfTwo();
        shrinkOneAfterTheOther();
        shrinkLookStays();
        System.out.println(wrong == 0 ? "all answers are as due" : wrong + " answers are not as due");
        if (wrong != 0) {
            System.exit(1);
        }
    }

    private static OrderTests withVertices(int... values) {
        OrderTests x = new OrderTests();
        for (int v : values) {
            x.vertex(v);
        }
        return x;
    }

    /** One VERTEX that takes what comes last, and 1 and 2 to come: 5 STATES, the fourth and the fifth are ENDS. */
    private static OrderTests lastOfTwo() {
        OrderTests x = withVertices(0);
        x.first(0, 1);
        x.first(0, 2);
        x.set(FOLD_KIND, LATER);
        return x;
    }

    /**
     * Three parts that do not touch, so 20 * 6 * 5 STATES. VERTEX 0 has a loop and sends 4 times, to 1 too: of its
     * 5 messages 0 .. 5 came, and as many as it sent or fewer at 1: 1 + 2 + 3 + 4 + 5 + 5. VERTEX 2 has a loop: 6.
     * VERTEX 3 takes the later of two: 5. All ENDS are 9 + 5 + 2 STEPS away: the two last STATES.
     */
    private static OrderTests sixHundred() {
        OrderTests x = withVertices(0, 0, 0, 0);
        x.arc(0, 0, 0);
        x.arc(0, 1, 0);
        x.arc(2, 2, 0);
        x.first(0, 0);
        x.first(2, 0);
        x.first(3, 1);
        x.first(3, 2);
        x.set(FOLD_KIND, LATER);
        x.set(ALWAYS, 1);
        x.set(SENDS, 4);
        return x;
    }

    private static void dueEnds(OrderTests x, int vertex, int... values) {
        due("how many ENDS", x.looked(1), values.length);
        for (int k = 0; k < values.length; k++) {
            due("end(" + k + ", " + vertex + ")", x.end(k, vertex), values[k]);
        }
        due("end(" + values.length + ", " + vertex + ")", x.end(values.length, vertex), UNKNOWN);
    }

    private static void dueWay(OrderTests x, int k, int what, int... steps) {
        due("how many STEPS to END " + k, x.way(k, -1, 0), steps.length);
        for (int i = 0; i < steps.length; i++) {
            due("way(" + k + ", " + i + ", " + what + ")", x.way(k, i, what), steps[i]);
        }
    }

    // ---- A STATE and THE BEGINNING

    private static void theBeginning() {
        says("3: THE BEGINNING is found first");
        OrderTests x = new OrderTests();
        due("of nothing: look(1)", x.look(1), 1);
        due("of nothing: WHOLE", x.looked(0), 1);
        due("of nothing: one END, a row of none", x.looked(1), 1);
        due("of nothing: no STEP", x.looked(2), 1);
        due("of nothing: no message", x.looked(3), 0);
        due("of nothing: look(600)", x.look(600), 1);
        due("of nothing: no VERTEX", x.end(0, 0), UNKNOWN);
        OrderTests y = withVertices(15, 0, 7);
        y.arc(0, 1, 3);
        due("of no FIRST MESSAGES: look(600)", y.look(600), 1);
        due("of no FIRST MESSAGES: WHOLE", y.looked(0), 1);
        due("of no FIRST MESSAGES: no message", y.looked(3), 0);
        dueEnds(y, 0, 15);
        dueEnds(y, 2, 7);
        OrderTests z = lastOfTwo();
        due("look(1)", z.look(1), 1);
        due("look(1): not WHOLE", z.looked(0), 0);
        due("look(1): no END", z.looked(1), 0);
        due("look(1): all have a STEP", z.looked(2), 0);
        due("look(1): two to come", z.looked(3), 2);
    }

    private static void theBeginningIsAsTold() {
        says("2: THE BEGINNING: VALUES as told, nothing sent, nothing came, nothing under way, all DOUBLES left");
        OrderTests x = withVertices(3, 0);
        x.arc(0, 1, 0);
        x.first(0, 1);
        x.set(DOUBLES, 2);
        for (int round = 0; round < 3; round++) {
            x.value(0, 4 * round);
            x.look(600);
            due("begins again: plain, sent on", x.end(0, 0), 4 * round + 1);
            due("begins again: what was sent came", x.end(0, 1), 4 * round + 1);
            due("begins again: two STEPS", x.way(0, -1, 0), 2);
            due("begins again: two to come at the most", x.looked(3), 2);
        }
    }

    private static void stateTellsValues() {
        says("2: A STATE tells the VALUE of each VERTEX");
        for (int v = 0; v < 5; v++) {
            OrderTests x = withVertices(0, 0, 0, 0, 0);
            x.first(v, 14);
            x.first(v, 15);
            x.set(FOLD_KIND, LATER);
            due("vertex " + v + " has 15 or 14 at last", x.look(600), 5);
            dueEnds(x, v, 15, 14);
        }
    }

    private static void stateTellsSent() {
        says("2: A STATE tells how often each VERTEX SENT");
        for (int v = 0; v < 5; v++) {
            // 3, then 2, are two changes of 5; 2, then 3, are one.
            OrderTests x = withVertices(5, 5, 5, 5, 5);
            x.first(v, 3);
            x.first(v, 2);
            x.set(FOLD_KIND, LESSER);
            due("vertex " + v + " can send once", x.look(600), 4);
            x.set(SENDS, 2);
            due("vertex " + v + " can send twice", x.look(600), 5);
            due("vertex " + v + ": two STATES", x.looked(2), 2);
            dueEnds(x, v, 2);
        }
    }

    private static void stateTellsWhichCame() {
        says("2: A STATE tells which FIRST MESSAGES came");
        OrderTests x = withVertices(0);
        x.set(FOLD_KIND, EARLIER);
        for (int firsts = 1; firsts <= 4; firsts++) {
            x.first(0, 1);
            due("of " + firsts + " alike any may have come", x.look(600), 1 << firsts);
            due("of " + firsts + " alike: no STEP", x.looked(2), 1);
        }
    }

    private static void stateTellsDoubles() {
        says("2: A STATE tells how many DOUBLES are left");
        OrderTests x = withVertices(0);
        x.first(0, 1);
        x.first(0, 1);
        x.set(FOLD_KIND, EARLIER);
        for (int doubles = 0; doubles <= 2; doubles++) {
            x.set(DOUBLES, doubles);
            due("DOUBLES " + doubles + ": any left, any came", x.look(600), 4 * (doubles + 1));
            due("DOUBLES " + doubles + ": no STEP", x.looked(2), doubles + 1);
            due("DOUBLES " + doubles + ": one END", x.looked(1), 1);
        }
    }

    private static void stateTellsWhichArc() {
        says("2: A STATE tells which VALUES are under way on each ARC");
        OrderTests x = withVertices(0, 0);
        x.arc(0, 1, 0);
        x.arc(0, 1, 0);
        x.first(0, 1);
        x.set(FOLD_KIND, GREATER);
        due("two alike on two ARCS: either may have come", x.look(600), 5);
        due("two alike on two ARCS: no STEP", x.looked(2), 1);
    }

    private static void stateTellsHowOften() {
        says("2: without ROWS only how often each VALUE is under way");
        OrderTests x = withVertices(0, 0);
        x.arc(0, 1, 0);
        x.first(0, 1);
        x.first(0, 1);
        x.first(0, 2);
        x.set(FOLD_KIND, LATER);
        x.set(ALWAYS, 1);
        x.set(SENDS, 3);
        // Which came at 0 and which as the last; how many 1s and 2s of these came at 1 and which as the last.
        // None: 1. One alone: 3 of them, 1 + 1. Both 1s: 1 + 1 + 1. A 1 and the 2: 2 of them, either last, 1 + 2 + 2.
        // All: either last; at 1 none, a 1, two 1s, a 2, then a 1 and a 2 or all, either last: 1 + 1 + 1 + 1 + 2 + 2.
        due("STATES", x.look(600), 1 + 3 * 2 + 3 + 2 * 2 * 5 + 2 * 8);
        due("ENDS", x.looked(1), 4);
        due("no STEP", x.looked(2), 4);
    }

    private static void stateTellsTheOrderWithRows() {
        says("2: with ROWS in their order");
        OrderTests x = withVertices(0, 0);
        x.arc(0, 1, 0);
        x.first(0, 3);
        x.first(0, 1);
        x.first(0, 2);
        x.set(FOLD_KIND, LATER);
        x.set(SENDS, 3);
        x.set(ROWS, 1);
        // In which order they came at 0, and how many of them at 1, in that order too: what is still under way tells
        // the orders apart, what came does not, but for the last.
        // None: 1. One: 3 + 3. Two: 6 + 6 + 6. All: 6 + 6 + 6 + 3.
        due("STATES", x.look(600), 1 + 6 + 18 + 21);
        dueEnds(x, 0, 2, 1, 3);
        dueEnds(x, 1, 2, 1, 3);
        x.set(ROWS, 0);
        // One: 3 * 2. Two, either last: 3 * 2 * (1 + 2 + 2). All, any last: 3 * (1 + 3 + 3 * 2 + 3).
        due("STATES without ROWS", x.look(600), 1 + 6 + 30 + 39);
        due("ENDS without ROWS", x.looked(1), 9);
    }

    /** Most of these STATES differ from some others by their rows alone. */
    private static void stateTellsTheOrderOfMany() {
        says("2: with ROWS in their order (of four)");
        OrderTests x = withVertices(0, 0);
        x.arc(0, 1, 0);
        for (int v = 1; v <= 4; v++) {
            x.first(0, v);
        }
        x.set(FOLD_KIND, LATER);
        x.set(SENDS, 4);
        x.set(ROWS, 1);
        // As for three: of m that came at 0 in some order, j came at 1. The order is told apart but for those before
        // the last of the j. None: 1. One: 4 + 4. Two: 12 + 12 + 12. Three: 24 + 24 + 24 + 24 / 2.
        // All: 24 + 24 + 24 + 24 / 2 + 24 / 6.
        due("STATES", x.look(600), 1 + 8 + 36 + 84 + 88);
        due("WHOLE", x.looked(0), 1);
        dueEnds(x, 1, 4, 3, 2, 1);
    }

    // ---- STEPS

    private static void stepsOfFirstsThenArcs() {
        says("2: STEPS: each FIRST MESSAGE that did not come, by numbers; then by ARCS");
        OrderTests x = withVertices(0, 0);
        x.arc(0, 1, 1);
        x.arc(0, 1, 2);
        x.first(0, 1);
        x.first(1, 9);
        x.set(FOLD_KIND, LATER);
        x.set(OUT_KIND, SUM_OUT);
        x.look(600);
        // 2 over ARC 0, 3 over ARC 1, and 9: what comes last stays. 9 is tried first, so it is last in the last END.
        dueEnds(x, 1, 3, 2, 9);
        dueWay(x, 0, 0, 100, 101, 0, 1);
        dueWay(x, 1, 0, 100, 101, 1, 0);
        dueWay(x, 2, 0, 100, 0, 1, 101);
        dueWay(x, 0, 1, 1, 9, 2, 3);
        OrderTests y = withVertices(0);
        for (int v = 1; v <= 4; v++) {
            y.first(0, v);
        }
        y.set(FOLD_KIND, LATER);
        y.look(600);
        dueEnds(y, 0, 4, 3, 2, 1);
        dueWay(y, 0, 0, 100, 101, 102, 103);
        dueWay(y, 3, 0, 101, 102, 103, 100);
    }

    private static void stepsOfRowsAreTheFirst() {
        says("2: with ROWS the first of those that are under way on it");
        OrderTests x = withVertices(0, 0);
        x.arc(0, 1, 0);
        x.first(0, 2);
        x.first(0, 1);
        x.set(FOLD_KIND, LATER);
        x.set(SENDS, 2);
        x.set(ROWS, 1);
        x.look(600);
        dueEnds(x, 1, 1, 2);
        dueWay(x, 0, 1, 2, 1, 2, 1);
        dueWay(x, 1, 1, 1, 2, 1, 2);
    }

    private static void stepsOfTheLeastFirst() {
        says("2: without ROWS each different VALUE of these, the least first");
        OrderTests x = withVertices(5, 5);
        x.arc(0, 1, 0);
        x.first(0, 15);
        x.first(0, 0);
        x.first(0, 7);
        x.set(FOLD_KIND, LATER);
        x.set(SENDS, 3);
        x.look(600);
        due("ENDS", x.looked(1), 9);
        dueWay(x, 0, 1, 15, 0, 7, 0, 7, 15);
        dueWay(x, 1, 1, 15, 0, 7, 0, 15, 7);
        dueWay(x, 2, 1, 15, 0, 7, 7, 15, 0);
    }

    /** By 2 a + b the VALUE tells in which order 1 and 2 came. */
    private static void stepsPlainThenDoubledOfFirsts() {
        says("2: Each so: plain; then, if DOUBLES are left, doubled (FIRST MESSAGES)");
        OrderTests x = withVertices(0);
        x.first(0, 1);
        x.first(0, 2);
        x.set(FOLD_KIND, TWICE);
        x.set(DOUBLES, 1);
        x.look(600);
        // 1 2, 2 1; then with one doubled (') 1 2' 2, 1' 1 2, 1' 2 1, 2 1' 1, 2' 1 2, 2' 2 1.
        dueEnds(x, 0, 4, 5, 10, 8, 9, 11, 12, 13);
        dueWay(x, 0, 2, 0, 0);
        dueWay(x, 2, 2, 0, 1, 0);
        dueWay(x, 3, 2, 1, 0, 0);
        dueWay(x, 3, 0, 100, 100, 101);
        dueWay(x, 7, 0, 101, 101, 100);
    }

    private static void stepsPlainThenDoubledOfArcs() {
        says("2: Each so: plain; then, if DOUBLES are left, doubled (ARCS)");
        OrderTests x = withVertices(0, 0);
        x.arc(0, 1, 0);
        x.arc(0, 1, 1);
        x.first(0, 1);
        x.set(FOLD_KIND, TWICE);
        x.set(OUT_KIND, SUM_OUT);
        x.set(DOUBLES, 1);
        x.look(600);
        // As before over ARCS 0 and 1, after the FIRST one; at last those in which that one was doubled.
        dueEnds(x, 1, 4, 5, 10, 8, 9, 11, 12, 13, 4, 5);
        dueEnds(x, 0, 1, 1, 1, 1, 1, 1, 1, 1, 3, 3);
        dueWay(x, 2, 2, 0, 0, 1, 0);
        dueWay(x, 3, 2, 0, 1, 0, 0);
        dueWay(x, 3, 0, 100, 0, 0, 1);
        dueWay(x, 8, 2, 1, 0, 0, 0);
    }

    private static void doublesLeft() {
        says("2: if DOUBLES are left; one DOUBLE less is left");
        OrderTests x = withVertices(0);
        x.first(0, 1);
        int[][] dues = {{1}, {1, 2}, {1, 2, 3}};
        for (int doubles = 0; doubles <= 2; doubles++) {
            x.set(DOUBLES, doubles);
            x.look(600);
            dueEnds(x, 0, dues[doubles]);
        }
        dueWay(x, 2, 2, 1, 1, 0);
        // Two for all together, not for each: at the most two of 1 + 1 come twice more.
        OrderTests y = withVertices(0, 0);
        y.first(0, 1);
        y.first(1, 1);
        y.set(DOUBLES, 2);
        y.look(600);
        due("by 0, 1 or 2 doubled: ENDS", y.looked(1), 1 + 2 + 3);
        int most = 0;
        for (int k = 0; k < 6; k++) {
            most = Math.max(most, y.end(k, 0) + y.end(k, 1));
        }
        due("no more than two doubled", most, 4);
    }

    private static void doubledStays() {
        says("2: doubled: all of that stays as it is");
        OrderTests x = withVertices(0);
        x.first(0, 1);
        x.set(DOUBLES, 1);
        x.look(3);
        due("a doubled FIRST one is still to come", x.looked(3), 1);
        due("a doubled FIRST one is still to come: one END of three STATES", x.looked(1), 1);
        // 1, then 4, are in the row. The first one stays first when it is doubled: 1 1 4, and never 1 4 1.
        OrderTests y = withVertices(0, 0);
        y.arc(0, 1, 0);
        y.first(0, 1);
        y.first(0, 2);
        y.set(FOLD_KIND, TWICE);
        y.set(SENDS, 2);
        y.set(ROWS, 1);
        y.set(DOUBLES, 1);
        y.look(600);
        due("with ROWS 1 4", countEnds(y, 4, 6), 1);
        due("with ROWS 1' 1 4", countEnds(y, 4, 10), 1);
        due("with ROWS 1 4' 4", countEnds(y, 4, 0), 1);
        due("with ROWS never 1' 4 1", countEnds(y, 4, 13), 0);
        y.set(ROWS, 0);
        y.look(600);
        due("without ROWS 1' 4 1", countEnds(y, 4, 13), 1);
    }

    private static int countEnds(OrderTests x, int first, int second) {
        int sum = 0;
        for (int k = 0; k < x.looked(1); k++) {
            sum += x.end(k, 0) == first && x.end(k, 1) == second ? 1 : 0;
        }
        return sum;
    }

    private static void firstComesOnce() {
        says("2: The message comes: it is under way no more (a FIRST one came)");
        OrderTests x = withVertices(0, 0);
        x.arc(0, 1, 0);
        x.first(0, 1);
        due("the beginning, it came, what was sent came", x.look(600), 3);
        due("no more than one at once", x.looked(3), 1);
        dueWay(x, 0, 0, 100, 0);
        dueEnds(x, 1, 1);
    }

    private static void sendsOnlyAChange() {
        says("2: If y is not x, or with ALWAYS");
        OrderTests x = withVertices(1, 0);
        x.arc(0, 1, 0);
        x.first(0, 1);
        x.set(FOLD_KIND, LATER);
        due("1 comes to 1: nothing is sent", x.look(600), 2);
        dueEnds(x, 1, 0);
        x.set(ALWAYS, 1);
        due("with ALWAYS it is", x.look(600), 3);
        dueEnds(x, 1, 1);
        x.set(ALWAYS, 0);
        x.value(0, 2);
        due("1 comes to 2: it is", x.look(600), 3);
    }

    private static void sendsFewerTimes() {
        says("2: and the VERTEX SENT fewer than SENDS times");
        OrderTests x = withVertices(0, 0);
        x.arc(0, 1, 0);
        x.first(0, 1);
        x.first(0, 2);
        x.set(FOLD_KIND, LATER);
        x.look(600);
        // The second one changes the VALUE, and is not sent.
        dueEnds(x, 0, 2, 1);
        dueEnds(x, 1, 1, 2);
        x.set(SENDS, 2);
        x.look(600);
        due("the second one is sent too", x.way(0, -1, 0), 4);
        OrderTests y = withVertices(0);
        y.arc(0, 0, 0);
        y.first(0, 0);
        y.set(ALWAYS, 1);
        for (int sends = 1; sends <= 16; sends++) {
            y.set(SENDS, sends);
            due("SENDS " + sends + ": what came first, and so many more", y.look(600), 2 + sends);
            due("SENDS " + sends + ": steps", y.way(0, -1, 0), 1 + sends);
        }
    }

    private static void sendsOnEachArcFromIt() {
        says("2: on each ARC from it OUT (y, WEIGHT) is under way");
        OrderTests x = withVertices(0, 0);
        for (int i = 0; i < 8; i++) {
            x.arc(0, 1, 0);
        }
        x.first(0, 1);
        x.set(FOLD_KIND, GREATER);
        due("look(2)", x.look(2), 2);
        due("eight are under way", x.looked(3), 8);
        due("any of the eight may have come", x.look(600), 1 + 256);
        OrderTests y = withVertices(0, 0, 0);
        y.arc(1, 2, 0);
        y.arc(0, 2, 5);
        y.arc(2, 1, 0);
        y.first(0, 1);
        y.set(OUT_KIND, SUM_OUT);
        y.set(FOLD_KIND, GREATER);
        y.look(2);
        due("from it alone", y.looked(3), 1);
        y.look(600);
        dueWay(y, 0, 0, 100, 1, 2, 0);
        dueWay(y, 0, 1, 1, 6, 6, 6);
    }

    /** The last ARC holds as many as an ARC ever can, all 15, beside one on the loop. */
    private static void sixteenUnderWay() {
        says("SENDS (1 .. 16): sixteen under way on one ARC");
        for (int rows = 0; rows <= 1; rows++) {
            OrderTests x = withVertices(15, 15, 0);
            for (int i = 0; i < 6; i++) {
                x.arc(2, 2, 0);
            }
            x.arc(0, 0, 0);
            x.arc(0, 1, 0);
            x.first(0, 15);
            x.set(FOLD_KIND, GREATER);
            x.set(ALWAYS, 1);
            x.set(SENDS, 16);
            x.set(ROWS, rows);
            // Of 17 messages 0 .. 17 came at 0, and as many as it sent or fewer at 1.
            due("STATES", x.look(600), 16 * 17 / 2 + 17 + 17);
            due("WHOLE", x.looked(0), 1);
            due("sixteen, and one on the loop", x.looked(3), 17);
            dueEnds(x, 1, 15);
            due("all came", x.way(0, -1, 0), 1 + 16 + 16);
            due("the last over the last ARC", x.way(0, 32, 0), 7);
            due("the last one's VALUE", x.way(0, 32, 1), 15);
        }
    }

    /** VERTEX 0 has 0, 1, .. by its loop, and sends each of the sixteen on: as many STATES as of sixteen alike. */
    private static OrderTests sixteenInTurn() {
        OrderTests x = withVertices(15, 5);
        x.arc(0, 0, 1);
        x.arc(0, 1, 0);
        x.first(0, 0);
        x.set(FOLD_KIND, LATER);
        x.set(OUT_KIND, SUM_OUT);
        x.set(SENDS, 16);
        x.set(ROWS, 1);
        return x;
    }

    private static void sixteenDifferentInARow() {
        says("2: is under way (with ROWS as the last one)");
        OrderTests x = sixteenInTurn();
        due("STATES", x.look(600), 170);
        dueEnds(x, 0, 0);
        dueEnds(x, 1, 15);
        for (int i = 0; i < 17; i++) {
            due("what comes at 0, " + i, x.way(0, i, 1), i % 16);
        }
        for (int i = 0; i < 16; i++) {
            due("what comes at 1, " + i, x.way(0, 17 + i, 1), i);
            due("over ARC 1, " + i, x.way(0, 17 + i, 0), 1);
        }
    }

    // ---- TO LOOK, promise 12

    private static void lookNumbers() {
        says("12: LOOKING up to n (1 .. 600). OUTSIDE");
        OrderTests x = lastOfTwo();
        int[] no = {0, -1, 601, 602, LOW, HIGH};
        for (int n : no) {
            due("look(" + n + ")", x.look(n), OUTSIDE);
            due("looked(0)", x.looked(0), NONE);
        }
        due("look(1)", x.look(1), 1);
        due("look(600)", x.look(600), 5);
        due("look(599)", x.look(599), 5);
    }

    private static void lookEndsWhenANewOneComes() {
        says("3: It ends when a new STATE comes and n were found, or all were gone through (it was WHOLE)");
        OrderTests x = lastOfTwo();
        int[] ends = {0, 0, 0, 1, 2, 2};
        for (int n = 1; n <= 6; n++) {
            due("look(" + n + ")", x.look(n), Math.min(n, 5));
            due("look(" + n + "): WHOLE", x.looked(0), n >= 5 ? 1 : 0);
            due("look(" + n + "): ENDS", x.looked(1), ends[n - 1]);
        }
        // After the third STATE of four all STEPS but one lead to the fourth.
        OrderTests y = withVertices(0);
        y.first(0, 1);
        y.first(0, 1);
        y.set(FOLD_KIND, EARLIER);
        due("look(3)", y.look(3), 3);
        due("look(3): WHOLE", y.looked(0), 0);
        due("look(4): what comes then was found", y.look(4), 4);
        due("look(4): WHOLE", y.looked(0), 1);
    }

    private static void lookOfSixHundred() {
        says("12: how many STATES were found (600)");
        OrderTests x = sixHundred();
        int[] ends = {0, 1, 2};
        for (int n = 598; n <= 600; n++) {
            due("look(" + n + ")", x.look(n), n);
            due("look(" + n + "): WHOLE", x.looked(0), n == 600 ? 1 : 0);
            due("look(" + n + "): ENDS", x.looked(1), ends[n - 598]);
            due("look(" + n + "): no STEP", x.looked(2), ends[n - 598]);
            due("look(" + n + "): most", x.looked(3), 5 + 1 + 2);
        }
        dueEnds(x, 3, 2, 1);
        due("the 600th STATE's way", x.way(1, -1, 0), 16);
        due("the 599th STATE's way", x.way(0, -1, 0), 16);
    }

    /** Two loops of 1 + 10, and the later of two: 11 * 11 * 5 STATES. The ENDS are the last two. */
    private static void lookOfMore() {
        says("12: LOOKING up to n (of 605 STATES)");
        OrderTests x = withVertices(0, 0, 0);
        x.arc(0, 0, 0);
        x.arc(1, 1, 0);
        x.first(0, 0);
        x.first(1, 0);
        x.first(2, 1);
        x.first(2, 2);
        x.set(FOLD_KIND, LATER);
        x.set(ALWAYS, 1);
        x.set(SENDS, 9);
        due("look(600)", x.look(600), 600);
        due("WHOLE", x.looked(0), 0);
        due("ENDS", x.looked(1), 0);
        due("no STEP", x.looked(2), 0);
        due("shrink(600)", x.shrink(600), NONE);
        x.set(SENDS, 8);
        due("of 500: look(600)", x.look(600), 500);
        due("of 500: WHOLE", x.looked(0), 1);
        due("of 500: ENDS", x.looked(1), 2);
        due("of 500: look(500)", x.look(500), 500);
        due("of 500: WHOLE", x.looked(0), 1);
        due("of 500: look(499)", x.look(499), 499);
        due("of 500: not WHOLE", x.looked(0), 0);
        due("of 500: ENDS but one", x.looked(1), 1);
    }

    private static void lookIsMadeAnew() {
        says("12: look, again and after changes");
        OrderTests x = sixHundred();
        x.look(600);
        x.look(3);
        due("after 600: looked(0)", x.looked(0), 0);
        due("after 600: looked(1)", x.looked(1), 0);
        due("after 600: looked(2)", x.looked(2), 0);
        due("after 600: looked(3)", x.looked(3), 5);
        due("after 600: end", x.end(0, 0), UNKNOWN);
        due("after 600: way", x.way(0, -1, 0), UNKNOWN);
        due("after 3: look(600)", x.look(600), 600);
        dueEnds(x, 3, 2, 1);
        x.set(FOLD_KIND, EARLIER);
        due("VERTEX 3 keeps what it has", x.look(600), 20 * 6 * 4);
        dueEnds(x, 3, 0);
    }

    /** A look that ends early leaves messages under way; the next one begins with none, also where 16 follow. */
    private static void lookAfterOneNotWhole() {
        says("2: THE BEGINNING: nothing under way (after a look that was not WHOLE)");
        for (int n = 1; n < 170; n += 7) {
            OrderTests x = sixteenInTurn();
            due("look(" + n + ")", x.look(n), n);
            due("look(600) after it", x.look(600), 170);
            due("WHOLE", x.looked(0), 1);
            dueEnds(x, 1, 15);
            due("shrink(" + n + ")", x.shrink(n), NONE);
            due("look(600) after shrink(" + n + ")", x.look(600), 170);
        }
    }

    // ---- ENDS and WAYS, promises 13 to 15

    private static void endsAreDifferentRows() {
        says("3: ENDS are the different rows of VALUES");
        // By how often it SENT two STATES differ, not the VALUES.
        OrderTests x = withVertices(5);
        x.first(0, 3);
        x.first(0, 2);
        x.set(FOLD_KIND, LESSER);
        x.set(SENDS, 2);
        x.look(600);
        due("no STEP", x.looked(2), 2);
        due("ENDS", x.looked(1), 1);
        // By any one VERTEX rows differ.
        for (int v = 0; v < 5; v++) {
            OrderTests y = withVertices(9, 9, 9, 9, 9);
            y.first(v, 7);
            y.first(v, 8);
            y.set(FOLD_KIND, LATER);
            y.look(600);
            dueEnds(y, v, 8, 7);
            dueEnds(y, (v + 1) % 5, 9, 9);
        }
    }

    private static void endsOfStatesFound() {
        says("3: of those STATES found in which no STEP is left");
        OrderTests x = lastOfTwo();
        x.look(4);
        due("found as the last, not gone through: ENDS", x.looked(1), 1);
        due("found as the last, not gone through: no STEP", x.looked(2), 1);
        due("not WHOLE", x.looked(0), 0);
        dueEnds(x, 0, 2);
        dueWay(x, 0, 0, 100, 101);
        x.look(3);
        due("none of three", x.looked(1), 0);
        due("none of three", x.end(0, 0), UNKNOWN);
    }

    private static void endsNumberedAsFound() {
        says("3: numbered as they were found first");
        // Each 15 that comes makes one less: by more STEPS, so found later, the VALUES fall.
        OrderTests x = withVertices(14);
        x.first(0, 15);
        x.set(DOUBLES, 2);
        x.look(600);
        dueEnds(x, 0, 13, 12, 11);
        // 8 and 0 are found in turn, and 8 once more: it has its number already.
        OrderTests y = withVertices(0);
        y.first(0, 8);
        y.set(DOUBLES, 2);
        y.look(600);
        due("STATES with no STEP", y.looked(2), 3);
        dueEnds(y, 0, 8, 0);
    }

    private static void wayToTheFirstState() {
        says("3: THE WAY to an END are the STEPS to the first STATE with it, by those by which STATES were found");
        // 2 is all that is left, after one send or after two: two STATES, the one by 100 and 101 was first.
        OrderTests x = withVertices(5);
        x.first(0, 2);
        x.first(0, 3);
        x.set(FOLD_KIND, LESSER);
        x.set(SENDS, 2);
        x.look(600);
        due("two STATES", x.looked(2), 2);
        dueEnds(x, 0, 2);
        dueWay(x, 0, 0, 100, 101);
        // One STATE, found from the STATE in which 100 came, and met again from the one in which 101 did.
        OrderTests y = withVertices(0, 0);
        y.first(0, 1);
        y.first(1, 2);
        due("met again", y.look(600), 4);
        dueWay(y, 0, 0, 100, 101);
        dueWay(y, 0, 1, 1, 2);
        // 8 by one STEP, and by three: 8 + 8 + 8.
        OrderTests z = withVertices(0);
        z.first(0, 8);
        z.set(DOUBLES, 2);
        z.look(600);
        dueWay(z, 0, 2, 0);
        dueWay(z, 1, 2, 1, 0);
    }

    private static void lookedNumbers() {
        says("13: what = 0 .. 3. OUTSIDE, NONE (there was none)");
        OrderTests x = lastOfTwo();
        int[] no = {-1, 4, 5, LOW, HIGH};
        for (int what : no) {
            due("without a look: looked(" + what + ")", x.looked(what), OUTSIDE);
        }
        for (int what = 0; what <= 3; what++) {
            due("without a look: looked(" + what + ")", x.looked(what), NONE);
        }
        x.look(600);
        int[] dues = {1, 2, 2, 2};
        for (int what = 0; what <= 3; what++) {
            due("looked(" + what + ")", x.looked(what), dues[what]);
        }
        for (int what : no) {
            due("looked(" + what + ")", x.looked(what), OUTSIDE);
        }
    }

    private static void lookedOfTheLatestNotRefused() {
        says("13: Of the latest look() that was not refused");
        OrderTests x = lastOfTwo();
        x.look(0);
        x.look(601);
        due("none but refused ones", x.looked(1), NONE);
        x.look(4);
        x.look(0);
        x.look(601);
        due("after refused ones: WHOLE", x.looked(0), 0);
        due("after refused ones: ENDS", x.looked(1), 1);
        due("after refused ones: end", x.end(0, 0), 2);
        due("after refused ones: way", x.way(0, -1, 0), 2);
        x.first(0, 3);
        x.set(FOLD_KIND, 0);
        x.value(0, 9);
        due("after changes: ENDS", x.looked(1), 1);
        due("after changes: most", x.looked(3), 2);
        due("after changes: end", x.end(0, 0), 2);
        x.look(600);
        due("of the latest: ENDS", x.looked(1), 1);
        due("of the latest: most", x.looked(3), 3);
        due("of the latest: end", x.end(0, 0), 15);
    }

    private static void lookedMost() {
        says("13: 3 the most messages that were under way, or FIRST ones that did not come, together");
        OrderTests x = withVertices(0, 0, 0);
        for (int i = 0; i < 8; i++) {
            x.arc(0, 1, 0);
        }
        x.first(0, 1);
        x.first(2, 1);
        x.first(2, 1);
        x.first(2, 1);
        x.look(1);
        due("in THE BEGINNING alone: four to come", x.looked(3), 4);
        x.look(2);
        due("eight under way and three to come, in a STATE not gone through", x.looked(3), 11);
        x.look(600);
        due("the most there ever are", x.looked(3), 11);
        OrderTests y = withVertices(0);
        y.look(600);
        due("without messages", y.looked(3), 0);
    }

    private static void endNumbers() {
        says("14: UNKNOWN (k; there was no look)");
        OrderTests x = lastOfTwo();
        due("no look", x.end(0, 0), UNKNOWN);
        x.shrink(600);
        due("shrink is no look", x.end(0, 0), UNKNOWN);
        x.look(600);
        due("end(0, 0)", x.end(0, 0), 2);
        due("end(1, 0)", x.end(1, 0), 1);
        int[] no = {-1, 2, 3, 600, LOW, HIGH};
        for (int k : no) {
            due("end(" + k + ", 0)", x.end(k, 0), UNKNOWN);
        }
        x.look(1);
        due("a look without ENDS", x.end(0, 0), UNKNOWN);
    }

    private static void endOfAVertexThatWasNot() {
        says("14: UNKNOWN (a VERTEX that there was not then)");
        OrderTests x = lastOfTwo();
        x.look(600);
        int[] no = {-1, 1, 2, 5, 8, LOW, HIGH};
        for (int vertex : no) {
            due("end(0, " + vertex + ")", x.end(0, vertex), UNKNOWN);
        }
        x.vertex(7);
        due("there is one now, there was not then", x.end(0, 1), UNKNOWN);
        due("the one that there was", x.end(0, 0), 2);
        x.look(600);
        due("there was one", x.end(0, 1), 7);
        due("there was no other", x.end(0, 2), UNKNOWN);
        OrderTests y = new OrderTests();
        y.look(1);
        y.vertex(3);
        due("there was none at all", y.end(0, 0), UNKNOWN);
        OrderTests z = withVertices(11, 12, 13, 14, 15);
        z.look(1);
        for (int v = 0; v < 5; v++) {
            due("of five, " + v, z.end(0, v), 11 + v);
        }
        due("of five, the sixth", z.end(0, 5), UNKNOWN);
    }

    private static void wayNumbers() {
        says("15: i is -1, then what is not looked at; what = 0, 1, 2. UNKNOWN (k, i), OUTSIDE");
        OrderTests x = lastOfTwo();
        x.look(600);
        int[] no = {-1, 3, 4, 100, LOW, HIGH};
        for (int what : no) {
            due("way(0, -1, " + what + ")", x.way(0, -1, what), 2);
            due("way(0, 0, " + what + ")", x.way(0, 0, what), OUTSIDE);
            due("way(1, 1, " + what + ")", x.way(1, 1, what), OUTSIDE);
        }
        int[] noStep = {-2, 2, 3, 600, LOW, HIGH};
        for (int i : noStep) {
            due("way(0, " + i + ", 0)", x.way(0, i, 0), UNKNOWN);
        }
        int[] noEnd = {-1, 2, 600, LOW, HIGH};
        for (int k : noEnd) {
            due("way(" + k + ", -1, 0)", x.way(k, -1, 0), UNKNOWN);
            due("way(" + k + ", 0, 0)", x.way(k, 0, 0), UNKNOWN);
        }
        dueWay(x, 0, 0, 100, 101);
        dueWay(x, 0, 1, 1, 2);
        dueWay(x, 0, 2, 0, 0);
        dueWay(x, 1, 0, 101, 100);
        dueWay(x, 1, 1, 2, 1);
    }

    private static void wayOfNoStep() {
        says("15: How many STEPS THE WAY to END k has (none)");
        OrderTests x = withVertices(4);
        x.look(600);
        due("way(0, -1, 0)", x.way(0, -1, 0), 0);
        due("way(0, 0, 0)", x.way(0, 0, 0), UNKNOWN);
        due("way(0, -2, 0)", x.way(0, -2, 0), UNKNOWN);
        due("way(1, -1, 0)", x.way(1, -1, 0), UNKNOWN);
    }

    /** One message goes round, until each of the five has sent 16 times. */
    private static void wayOfManySteps() {
        says("15: Of STEP i: 0 its ARC, or 100 and the number of a FIRST MESSAGE (81 of them)");
        OrderTests x = withVertices(15, 15, 15, 15, 15);
        for (int i = 0; i < 5; i++) {
            x.arc(i, (i + 1) % 5, 15);
        }
        x.first(0, 15);
        x.set(FOLD_KIND, GREATER);
        x.set(ALWAYS, 1);
        x.set(SENDS, 16);
        due("look(600)", x.look(600), 82);
        due("looked(3)", x.looked(3), 1);
        due("way(0, -1, 0)", x.way(0, -1, 0), 81);
        due("way(0, 0, 0)", x.way(0, 0, 0), 100);
        for (int i = 1; i <= 80; i++) {
            due("way(0, " + i + ", 0)", x.way(0, i, 0), (i - 1) % 5);
            due("way(0, " + i + ", 1)", x.way(0, i, 1), 15);
        }
        due("way(0, 81, 0)", x.way(0, 81, 0), UNKNOWN);
        for (int v = 0; v < 5; v++) {
            due("end(0, " + v + ")", x.end(0, v), 15);
        }
        x.set(SENDS, 15);
        due("with SENDS 15", x.look(600), 77);
        due("with SENDS 15: way", x.way(0, -1, 0), 76);
    }

    private static void wayOfTheLatestLook() {
        says("15: way, after changes");
        OrderTests x = lastOfTwo();
        x.look(600);
        x.first(0, 3);
        x.set(DOUBLES, 2);
        x.set(FOLD_KIND, 0);
        dueWay(x, 0, 0, 100, 101);
        dueWay(x, 1, 1, 2, 1);
        x.shrink(600);
        dueWay(x, 0, 0, 100, 101);
        dueWay(x, 1, 1, 2, 1);
        due("way(2, -1, 0)", x.way(2, -1, 0), UNKNOWN);
    }

    // ---- THE LEAST GRAPH, promise 16

    private static void shrinkNumbers() {
        says("16: LOOKING up to n (1 .. 600). OUTSIDE");
        OrderTests x = lastOfTwo();
        int[] no = {0, -1, 601, 602, LOW, HIGH};
        for (int n : no) {
            due("shrink(" + n + ")", x.shrink(n), OUTSIDE);
        }
        due("shrink(1)", x.shrink(1), NONE);
        due("shrink(600)", x.shrink(600), 0);
    }

    private static void shrinkFindsTwo() {
        says("16: if LOOKING up to n finds two ENDS or more. NONE: it does not");
        OrderTests none = lastOfTwo();
        due("no END of three STATES", none.shrink(3), NONE);
        due("one END of four", none.shrink(4), NONE);
        due("two ENDS of five", none.shrink(5), 0);
        OrderTests three = lastOfTwo();
        three.first(0, 3);
        three.look(600);
        due("three ENDS", three.looked(1), 3);
        due("three ENDS", three.shrink(600), 0);
        three.arc(0, 0, 0);
        due("three ENDS, and as many without the ARC", three.shrink(600), 0);
        // 1, and 2 by one doubled, are the ENDS of the first four of six STATES.
        OrderTests early = withVertices(0);
        early.first(0, 1);
        early.set(DOUBLES, 2);
        due("two ENDS, not WHOLE", early.shrink(4), 0);
        due("one END, not WHOLE", early.shrink(3), NONE);
        OrderTests one = lastOfTwo();
        one.set(FOLD_KIND, GREATER);
        due("one END, WHOLE", one.shrink(600), NONE);
        due("of nothing", new OrderTests().shrink(600), NONE);
        due("of one VERTEX", withVertices(3).shrink(600), NONE);
    }

    /** 0 and 1 race for what 2 has at last; VERTEX 3 is told of it over ARC 0. */
    private static OrderTests race() {
        OrderTests x = withVertices(0, 0, 0, 0);
        x.arc(2, 3, 0);
        x.arc(0, 2, 0);
        x.arc(1, 2, 0);
        x.first(0, 1);
        x.first(1, 2);
        x.set(FOLD_KIND, LATER);
        return x;
    }

    private static void shrinkUpToN() {
        says("16: LOOKING up to n, with and without each ARC");
        OrderTests x = sixHundred();
        due("the second END is the 600th STATE", x.shrink(600), 0);
        due("the second END is not found", x.shrink(599), NONE);
        // Nothing came at 2: 2 * 2. From 0 alone: 2, and from 1 alone: 2, each with what 2 sent under way or come at 3.
        // From both, either first, and the same: 4. The ENDS are the last two.
        OrderTests y = race();
        due("STATES", y.look(600), 4 + 4 + 4 + 4);
        due("the second END is the 16th STATE", y.shrink(16), 2 + 4);
        due("it is not found", y.shrink(15), NONE);
        // Without ARC 0 there are 4 + 2 + 2 + 2: ten would do, but with it they do not.
        due("ten, with ARC 0", y.shrink(10), NONE);
        OrderTests z = withVertices(0, 0, 0);
        z.arc(0, 2, 0);
        z.arc(1, 2, 0);
        z.first(0, 1);
        z.first(1, 2);
        z.set(FOLD_KIND, LATER);
        due("ten, without it", z.shrink(10), 1 + 2);
        due("nine, without it", z.shrink(9), NONE);
    }

    /**
     * VERTEX 1 goes round between 6 and 7 by its loop after 3 came, until it has sent 16 times; 1, which 0 sends over
     * ARC 0, makes it stop at 5. VERTEX 2 has 12 or 13 at last, whichever came later.
     */
    private static OrderTests roundAndRound(boolean canStop) {
        OrderTests x = withVertices(0, 2, 0);
        if (canStop) {
            x.arc(0, 1, 0);
        }
        x.arc(1, 1, 0);
        x.first(0, 1);
        x.first(1, 3);
        x.first(2, 12);
        x.first(2, 13);
        x.set(FOLD_KIND, BY_TABLE);
        x.set(SENDS, 16);
        int[][] cells = {{0, 1, 1}, {2, 3, 6}, {6, 6, 7}, {7, 7, 6}, {2, 1, 5}, {6, 1, 5}, {7, 1, 5}, {5, 3, 5},
            {5, 5, 5}, {5, 6, 5}, {5, 7, 5}, {0, 12, 12}, {0, 13, 13}, {12, 13, 13}, {13, 12, 12}};
        for (int[] c : cells) {
            x.table(c[0], c[1], c[2]);
        }
        return x;
    }

    private static void shrinkUpToNWithout() {
        says("16: if without it LOOKING up to n finds two or more still");
        OrderTests x = roundAndRound(true);
        x.look(150);
        due("two ENDS by 150 STATES, for it can stop", x.looked(1), 2);
        // Without ARC 0: 0 has 0 or 1, 1 is at one of 1 + 1 + 16 places, 2 at one of 5, and the ENDS are the last two.
        OrderTests y = roundAndRound(false);
        due("STATES without ARC 0", y.look(600), 2 * 18 * 5);
        due("its ENDS", y.looked(1), 2);
        due("its second END is the last STATE", y.shrink(179), NONE);
        due("without ARC 0 there are not two by 150, without ARC 1 there are", x.shrink(150), 1);
        due("without ARC 0 there are two by 180, and without ARC 1 too", x.shrink(180), 0);
    }

    private static void shrinkOfNoArcs() {
        says("16: of all ARCS (none, or none that is needed)");
        due("there are none", lastOfTwo().shrink(600), 0);
        OrderTests x = lastOfTwo();
        x.vertex(0);
        for (int i = 0; i < 8; i++) {
            x.arc(1, 1, i);
        }
        due("all eight are left out", x.shrink(600), 0);
    }

    private static void shrinkPowersOfTwo() {
        says("16: those that stay, 2 to the power of the number of each, together");
        for (int needed = 0; needed < 8; needed++) {
            // 1 comes to VERTEX 1 over one ARC; 2 comes there first or last. The other ARCS are never used.
            OrderTests x = withVertices(0, 0, 0);
            for (int i = 0; i < 8; i++) {
                x.arc(i == needed ? 0 : 2, 1, 0);
            }
            x.first(0, 1);
            x.first(1, 2);
            x.set(FOLD_KIND, LATER);
            due("ARC " + needed + " alone", x.shrink(600), 1 << needed);
        }
        due("all eight stay", thereAndBack().shrink(600), 255);
        OrderTests without = thereAndBack();
        without.look(600);
        due("by all eight two ENDS", without.looked(1), 2);
    }

    /**
     * 1 goes from VERTEX 0 over 1, 2, 3 to 4, which makes it 2; 2 goes back over 3, 2, 1 to 0. There 3 stays if it
     * comes after the 2, and is nothing before it. Without any one ARC no 2 comes to 0, so 3 is nothing.
     */
    private static OrderTests thereAndBack() {
        OrderTests x = withVertices(0, 0, 0, 0, 8);
        for (int v = 0; v < 4; v++) {
            x.arc(v, v + 1, 0);
        }
        for (int v = 4; v > 0; v--) {
            x.arc(v, v - 1, 0);
        }
        x.first(0, 1);
        x.first(0, 3);
        x.set(FOLD_KIND, BY_TABLE);
        x.set(SENDS, 2);
        x.set(ROWS, 1);
        int[][] cells = {{0, 1, 1}, {1, 1, 1}, {2, 1, 2}, {3, 1, 3}, {8, 1, 2}, {1, 2, 2}, {2, 2, 2}, {3, 2, 3},
            {1, 3, 1}, {2, 3, 3}};
        for (int[] c : cells) {
            x.table(c[0], c[1], c[2]);
        }
        return x;
    }

    private static void shrinkOneAfterTheOther() {
        says("16: one after the other from 0 on, if without it (and those left out before) it finds two still");
        // Any one of the three alike would do: the first two are left out, then the third has to stay.
        OrderTests x = withVertices(0, 0);
        x.arc(0, 1, 0);
        x.arc(0, 1, 0);
        x.arc(0, 1, 0);
        x.first(0, 1);
        x.first(1, 2);
        x.set(FOLD_KIND, LATER);
        due("of three alike the last stays", x.shrink(600), 4);
        // By a short way (ARC 0) or by a long one (ARCS 1, 2): the short one is left out first, so the long one stays.
        OrderTests y = withVertices(0, 0, 0);
        y.arc(0, 1, 0);
        y.arc(0, 2, 0);
        y.arc(2, 1, 0);
        y.first(0, 1);
        y.first(1, 2);
        y.set(FOLD_KIND, LATER);
        due("the long way stays", y.shrink(600), 2 + 4);
        // The other way round: the long one cannot be used when its first ARC is left out.
        OrderTests z = withVertices(0, 0, 0);
        z.arc(0, 2, 0);
        z.arc(2, 1, 0);
        z.arc(0, 1, 0);
        z.first(0, 1);
        z.first(1, 2);
        z.set(FOLD_KIND, LATER);
        due("the short way stays", z.shrink(600), 4);
    }

    private static void shrinkLookStays() {
        says("16: (The latest look stays.)");
        OrderTests x = race();
        due("shrink(600)", x.shrink(600), 6);
        due("there was no look", x.looked(0), NONE);
        due("there was no look", x.way(0, -1, 0), UNKNOWN);
        x.look(600);
        int[] before = reading(x);
        due("shrink(600)", x.shrink(600), 6);
        dueReading(x, before);
        due("shrink(1)", x.shrink(1), NONE);
        dueReading(x, before);
        due("shrink(601)", x.shrink(601), OUTSIDE);
        dueReading(x, before);
        due("all ARCS are there still", x.about(1), 3);
        due("look(600) is as before", x.look(600) > 0 ? 1 : 0, 1);
        dueReading(x, before);
    }

    private static int[] reading(OrderTests x) {
        int[] all = new int[4 + 2 * (4 + 1 + 15)];
        int at = 0;
        for (int what = 0; what < 4; what++) {
            all[at++] = x.looked(what);
        }
        for (int k = 0; k < 2; k++) {
            for (int v = 0; v < 4; v++) {
                all[at++] = x.end(k, v);
            }
            all[at++] = x.way(k, -1, 0);
            for (int i = 0; i < 15; i++) {
                all[at++] = x.way(k, i / 3, i % 3);
            }
        }
        return all;
    }

    private static void dueReading(OrderTests x, int[] before) {
        int[] now = reading(x);
        for (int i = 0; i < now.length; i++) {
            due("reading " + i, now[i], before[i]);
        }
    }
}
