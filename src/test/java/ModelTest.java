import java.util.ArrayList;
import java.util.Arrays;
import java.util.Collections;
import java.util.LinkedHashMap;
import java.util.List;
import java.util.Map;
import java.util.TreeSet;

/** Long runs of calls, each answer against that of a second program which is as plain as can be. */
public final class ModelTest {
    private static final int RUNS = 800;
    private static final int CALLS = 120;
    /** The document promises nothing of an object after so many calls. */
    private static final int MOST_CALLS = 512;
    private static final int READ_AFTER_A_LOOK = 40;

    private static long seed;
    private static int wrong = 0;
    private static final int[] seen = new int[7];

    /** Always the same numbers, so that a failure can be run again. */
    private static int any(int below) {
        seed = seed * 6364136223846793005L + 1442695040888963407L;
        return (int) ((seed >>> 33) % below);
    }

    private static int near(int least, int greatest) {
        if (any(25) == 0) {
            int[] odd = {least - 1, greatest + 1, Integer.MIN_VALUE, Integer.MAX_VALUE};
            return odd[any(odd.length)];
        }
        return least + any(greatest - least + 1);
    }

    public static void main(String[] args) {
        for (int run = 0; run < RUNS && wrong == 0; run++) {
            seed = run * 7919L + 1;
            oneRun(run);
        }
        String[] names = {"whole", "not whole", "two ends or more", "ends but not whole", "doubled steps",
            "shrunk", "shrunk with arcs that stay"};
        for (int i = 0; i < names.length; i++) {
            if (seen[i] < 50) {
                wrong++;
                System.out.println("too few looks: " + names[i] + " " + seen[i]);
            }
        }
        System.out.println(wrong == 0 ? "all answers are as due" : wrong + " answers are not as due");
        if (wrong != 0) {
            System.exit(1);
        }
    }

    private static void oneRun(int run) {
        OrderTests real = new OrderTests();
        Model model = new Model();
        List<String> told = new ArrayList<>();
        int style = any(4);
        int left = MOST_CALLS - CALLS;
        for (int i = 0; i < CALLS && wrong == 0; i++) {
            int which = i < 14 ? any(4) : any(16);
            if (i == 14 && style > 0) {
                which = 10;
            }
            int[] a = arguments(which, style);
            int got = call(real, which, a);
            int want = model.call(which, a);
            told.add(which + Arrays.toString(a) + " -> " + got);
            if (got != want) {
                wrong++;
                System.out.println("run " + run + ": due is " + want + " at the last of " + told);
            }
            if (which == 10 && got > 0) {
                left -= readLook(run, real, model, told, Math.min(left, READ_AFTER_A_LOOK));
            }
            if (which == 14 && got >= 0) {
                seen[5]++;
                seen[6] += got > 0 ? 1 : 0;
            }
        }
        readLook(run, real, model, told, left);
    }

    /** Asks at most so many things of the latest look, any of them if there are more, and tells how many. */
    private static int readLook(int run, OrderTests real, Model model, List<String> told, int most) {
        List<int[]> asked = questions(model);
        int count = Math.min(most, asked.size());
        for (int i = 0; i < count; i++) {
            Collections.swap(asked, i, i + any(asked.size() - i));
            int[] q = asked.get(i);
            int[] a = {q[1], q[2], q[3]};
            int got = call(real, q[0], a);
            int want = model.call(q[0], a);
            if (got != want) {
                wrong++;
                System.out.println("run " + run + ": " + Arrays.toString(q) + " answered " + got + ", due is " + want
                    + " after " + told);
                return i;
            }
            seen[4] += q[0] == 13 && q[3] == 2 && q[2] >= 0 && want == 1 ? 1 : 0;
        }
        countLook(model);
        return count;
    }

    private static List<int[]> questions(Model model) {
        List<int[]> asked = new ArrayList<>();
        for (int what = 0; what < 4; what++) {
            asked.add(new int[] {11, what, 0, 0});
        }
        int ends = model.call(11, new int[] {1, 0, 0});
        for (int k = 0; k <= Math.min(ends, 40); k++) {
            for (int v = 0; v <= 5; v++) {
                asked.add(new int[] {12, k, v, 0});
            }
            int length = model.call(13, new int[] {k, -1, 0});
            for (int i = -1; i <= length; i++) {
                for (int what = 0; what < 4; what++) {
                    asked.add(new int[] {13, k, i, what});
                }
            }
        }
        return asked;
    }

    private static void countLook(Model model) {
        int ends = model.call(11, new int[] {1, 0, 0});
        boolean whole = model.call(11, new int[] {0, 0, 0}) == 1;
        seen[0] += whole ? 1 : 0;
        seen[1] += whole ? 0 : 1;
        seen[2] += ends > 1 ? 1 : 0;
        seen[3] += ends > 0 && !whole ? 1 : 0;
    }

    private static int[] arguments(int which, int style) {
        switch (which) {
            case 0: return new int[] {near(0, 15), 0, 0};
            case 1: return new int[] {near(0, 4), near(0, 4), near(0, 15)};
            case 2: return new int[] {near(0, 4), near(0, 15), 0};
            case 3: return setting(style);
            case 4: return new int[] {near(0, 15), near(0, 15), near(0, 15)};
            case 5: return new int[] {near(0, 4), near(0, 15), 0};
            case 6:
            case 7: return new int[] {near(0, 15), near(0, 15), 0};
            case 8: return new int[] {near(0, 6), 0, 0};
            case 9: return new int[] {near(0, 8), 0, 0};
            case 10:
            case 14: return new int[] {any(3) == 0 ? near(1, 600) : any(3) == 0 ? near(1, 30) : 600, 0, 0};
            case 11: return new int[] {near(0, 3), 0, 0};
            case 12: return new int[] {near(0, 8), near(0, 4), 0};
            default: return new int[] {near(0, 8), near(-1, 9), near(0, 2)};
        }
    }

    /** Few SENDS and no DOUBLES in some runs, so that there are looks that come to their ends. */
    private static int[] setting(int style) {
        int what = near(0, 5);
        int[] greatest = {9, 4, 1, style == 3 ? 16 : 2, 1, style == 1 ? 0 : 2};
        boolean known = what >= 0 && what < 6;
        return new int[] {what, near(what == 3 ? 1 : 0, known ? greatest[what] : 9), 0};
    }

    private static int call(OrderTests x, int which, int[] a) {
        switch (which) {
            case 0: return x.vertex(a[0]);
            case 1: return x.arc(a[0], a[1], a[2]);
            case 2: return x.first(a[0], a[1]);
            case 3: return x.set(a[0], a[1]);
            case 4: return x.table(a[0], a[1], a[2]);
            case 5: return x.value(a[0], a[1]);
            case 6: return x.fold(a[0], a[1]);
            case 7: return x.out(a[0], a[1]);
            case 8: return x.law(a[0]);
            case 9: return x.about(a[0]);
            case 10: return x.look(a[0]);
            case 11: return x.looked(a[0]);
            case 12: return x.end(a[0], a[1]);
            case 14: return x.shrink(a[0]);
            default: return x.way(a[0], a[1], a[2]);
        }
    }

    private static final class State {
        List<Integer> values = new ArrayList<>();
        List<Integer> sent = new ArrayList<>();
        List<Integer> came = new ArrayList<>();
        int doubles;
        List<List<Integer>> underWay = new ArrayList<>();

        State copy() {
            State s = new State();
            s.values.addAll(values);
            s.sent.addAll(sent);
            s.came.addAll(came);
            s.doubles = doubles;
            for (List<Integer> row : underWay) {
                s.underWay.add(new ArrayList<>(row));
            }
            return s;
        }

        String text(boolean rows) {
            List<List<Integer>> shown = new ArrayList<>();
            for (List<Integer> row : underWay) {
                List<Integer> copy = new ArrayList<>(row);
                if (!rows) {
                    Collections.sort(copy);
                }
                shown.add(copy);
            }
            List<Integer> sortedCame = new ArrayList<>(came);
            Collections.sort(sortedCame);
            return values + "/" + sent + "/" + sortedCame + "/" + doubles + "/" + shown;
        }
    }

    /** A STATE that was found, and the STEPS from THE BEGINNING to it. */
    private static final class Find {
        State state;
        List<int[]> way;

        Find(State state, List<int[]> way) {
            this.state = state;
            this.way = way;
        }
    }

    private static final class Look {
        boolean whole = true;
        List<Find> finds = new ArrayList<>();
        Map<List<Integer>, Find> ends = new LinkedHashMap<>();
        int stepless;
        int most;
        int vertices;
    }

    private static final class Model {
        private static final int NONE = -1, UNKNOWN = -101, OUTSIDE = -102, ROOM = -104;

        List<Integer> values = new ArrayList<>();
        List<int[]> arcs = new ArrayList<>();
        List<int[]> firsts = new ArrayList<>();
        int[] settings = {0, 0, 0, 1, 0, 0};
        int[][] table = new int[16][16];
        Look latest;

        int call(int which, int[] a) {
            switch (which) {
                case 0: return add(values, a[0], 5, inside(a[0]));
                case 1:
                    return !isVertex(a[0]) || !isVertex(a[1]) ? UNKNOWN
                        : add(arcs, a.clone(), 8, inside(a[2]));
                case 2: return !isVertex(a[0]) ? UNKNOWN : add(firsts, a.clone(), 4, inside(a[1]));
                case 3: return set(a[0], a[1]);
                case 4: return tell(a[0], a[1], a[2]);
                case 5: return !isVertex(a[0]) ? UNKNOWN : !inside(a[1]) ? OUTSIDE : values.set(a[0], a[1]);
                case 6: return inside(a[0]) && inside(a[1]) ? fold(a[0], a[1]) : OUTSIDE;
                case 7: return inside(a[0]) && inside(a[1]) ? out(a[0], a[1]) : OUTSIDE;
                case 8: return law(a[0]);
                case 9: return about(a[0]);
                case 10: return look(a[0]);
                case 11: return looked(a[0]);
                case 12: return end(a[0], a[1]);
                case 14: return shrink(a[0]);
                default: return way(a[0], a[1], a[2]);
            }
        }

        boolean inside(int v) {
            return v >= 0 && v <= 15;
        }

        boolean isVertex(int v) {
            return v >= 0 && v < values.size();
        }

        <T> int add(List<T> list, T thing, int most, boolean isInside) {
            if (!isInside) {
                return OUTSIDE;
            }
            if (list.size() == most) {
                return ROOM;
            }
            list.add(thing);
            return list.size() - 1;
        }

        int set(int what, int v) {
            if (what < 0 || what > 5 || v < (what == 3 ? 1 : 0) || v > new int[] {9, 4, 1, 16, 1, 2}[what]) {
                return OUTSIDE;
            }
            int before = settings[what];
            settings[what] = v;
            return before;
        }

        int tell(int a, int b, int c) {
            if (!inside(a) || !inside(b) || !inside(c)) {
                return OUTSIDE;
            }
            int before = table[a][b];
            table[a][b] = c;
            return before;
        }

        int fold(int a, int b) {
            return new int[] {(a + b) % 16, Math.min(a, b), Math.max(a, b), a ^ b, b, a, (2 * a + b) % 16, a & b,
                a | b, table[a][b]}[settings[0]];
        }

        int out(int y, int w) {
            return new int[] {y, (y + w) % 16, Math.min(y, w), Math.max(y, w), y * w % 16}[settings[1]];
        }

        int law(int which) {
            if (which < 0 || which > 6) {
                return OUTSIDE;
            }
            for (int code = 0; code < 4096; code++) {
                int a = code / 256;
                int b = code / 16 % 16;
                int c = code % 16;
                boolean hasB = which != 2;
                boolean hasC = which == 0 || which == 3 || which == 5;
                if (!hasB && b != 0 || !hasC && c != 0) {
                    continue;
                }
                boolean[] holds = {
                    fold(fold(a, b), c) == fold(a, fold(b, c)),
                    fold(a, b) == fold(b, a),
                    fold(a, a) == a,
                    fold(fold(a, b), c) == fold(fold(a, c), b),
                    fold(fold(a, b), b) == fold(a, b),
                    !(a <= b) || fold(a, c) <= fold(b, c),
                    fold(a, b) <= a};
                if (!holds[which]) {
                    return code;
                }
            }
            return NONE;
        }

        int about(int what) {
            if (what < 0 || what > 8) {
                return OUTSIDE;
            }
            return what == 0 ? values.size() : what == 1 ? arcs.size() : what == 2 ? firsts.size() : settings[what - 3];
        }

        int look(int n) {
            if (n < 1 || n > 600) {
                return OUTSIDE;
            }
            latest = looking(n, 255);
            return latest.finds.size();
        }

        int looked(int what) {
            if (what < 0 || what > 3) {
                return OUTSIDE;
            }
            if (latest == null) {
                return NONE;
            }
            return new int[] {latest.whole ? 1 : 0, latest.ends.size(), latest.stepless, latest.most}[what];
        }

        int end(int k, int vertex) {
            if (latest == null || k < 0 || k >= latest.ends.size() || vertex < 0 || vertex >= latest.vertices) {
                return UNKNOWN;
            }
            return new ArrayList<>(latest.ends.keySet()).get(k).get(vertex);
        }

        int way(int k, int i, int what) {
            if (latest == null || k < 0 || k >= latest.ends.size()) {
                return UNKNOWN;
            }
            List<int[]> way = new ArrayList<>(latest.ends.values()).get(k).way;
            if (i == -1) {
                return way.size();
            }
            if (i < -1 || i >= way.size()) {
                return UNKNOWN;
            }
            return what < 0 || what > 2 ? OUTSIDE : way.get(i)[what];
        }

        int shrink(int n) {
            if (n < 1 || n > 600) {
                return OUTSIDE;
            }
            int left = (1 << arcs.size()) - 1;
            if (looking(n, left).ends.size() < 2) {
                return NONE;
            }
            for (int arc = 0; arc < arcs.size(); arc++) {
                if (looking(n, left - (1 << arc)).ends.size() >= 2) {
                    left -= 1 << arc;
                }
            }
            return left;
        }

        Look looking(int n, int mask) {
            Look look = new Look();
            look.vertices = values.size();
            Map<String, Find> known = new LinkedHashMap<>();
            State begin = new State();
            begin.values.addAll(values);
            begin.sent.addAll(Collections.nCopies(values.size(), 0));
            begin.doubles = settings[5];
            for (int arc = 0; arc < arcs.size(); arc++) {
                begin.underWay.add(new ArrayList<>());
            }
            Find first = new Find(begin, new ArrayList<>());
            known.put(begin.text(settings[4] == 1), first);
            look.finds.add(first);
            explore:
            for (int s = 0; s < look.finds.size(); s++) {
                Find from = look.finds.get(s);
                for (int[] step : steps(from.state)) {
                    State next = after(from.state, step, mask);
                    String text = next.text(settings[4] == 1);
                    if (known.containsKey(text)) {
                        continue;
                    }
                    if (look.finds.size() == n) {
                        look.whole = false;
                        break explore;
                    }
                    List<int[]> way = new ArrayList<>(from.way);
                    way.add(step);
                    Find find = new Find(next, way);
                    known.put(text, find);
                    look.finds.add(find);
                }
            }
            for (Find find : look.finds) {
                int pending = firsts.size() - find.state.came.size();
                for (List<Integer> row : find.state.underWay) {
                    pending += row.size();
                }
                look.most = Math.max(look.most, pending);
                if (steps(find.state).isEmpty()) {
                    look.stepless++;
                    look.ends.putIfAbsent(find.state.values, find);
                }
            }
            return look;
        }

        List<int[]> steps(State state) {
            List<int[]> plain = new ArrayList<>();
            for (int f = 0; f < firsts.size(); f++) {
                if (!state.came.contains(f)) {
                    plain.add(new int[] {100 + f, firsts.get(f)[1], 0});
                }
            }
            for (int arc = 0; arc < arcs.size(); arc++) {
                List<Integer> row = state.underWay.get(arc);
                if (settings[4] == 1 && !row.isEmpty()) {
                    plain.add(new int[] {arc, row.get(0), 0});
                }
                if (settings[4] == 0) {
                    for (int v : new TreeSet<>(row)) {
                        plain.add(new int[] {arc, v, 0});
                    }
                }
            }
            List<int[]> all = new ArrayList<>();
            for (int[] step : plain) {
                all.add(step);
                if (state.doubles > 0) {
                    all.add(new int[] {step[0], step[1], 1});
                }
            }
            return all;
        }

        State after(State before, int[] step, int mask) {
            State s = before.copy();
            int to = step[0] >= 100 ? firsts.get(step[0] - 100)[0] : arcs.get(step[0])[1];
            if (step[2] == 1) {
                s.doubles--;
            } else if (step[0] >= 100) {
                s.came.add(step[0] - 100);
            } else {
                s.underWay.get(step[0]).remove(Integer.valueOf(step[1]));
            }
            int x = s.values.get(to);
            int y = fold(x, step[1]);
            s.values.set(to, y);
            if ((x != y || settings[2] == 1) && s.sent.get(to) < settings[3]) {
                s.sent.set(to, s.sent.get(to) + 1);
                for (int arc = 0; arc < arcs.size(); arc++) {
                    if (arcs.get(arc)[0] == to && (mask >> arc) % 2 == 1) {
                        s.underWay.get(arc).add(out(y, arcs.get(arc)[2]));
                    }
                }
            }
            return s;
        }
    }
}
