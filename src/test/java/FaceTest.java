import java.io.IOException;
import java.lang.management.ManagementFactory;
import java.lang.management.ThreadMXBean;
import java.lang.reflect.Array;
import java.lang.reflect.Constructor;
import java.lang.reflect.Field;
import java.lang.reflect.Method;
import java.lang.reflect.Modifier;
import java.nio.file.Files;
import java.nio.file.Path;
import java.util.IdentityHashMap;
import java.util.Map;
import java.util.Set;
import java.util.TreeSet;
import java.util.regex.Matcher;
import java.util.regex.Pattern;

/** The public face, what of LANGUAGE.md can be seen from outside or in the text, and the room an object takes. */
public final class FaceTest {
    private static final String SOURCE = "src/main/java/OrderTests.java";
    private static final Set<String> METHODS = Set.of("vertex(int)", "arc(int,int,int)", "first(int,int)",
        "set(int,int)", "table(int,int,int)", "value(int,int)", "fold(int,int)", "out(int,int)", "law(int)",
        "about(int)", "look(int)", "looked(int)", "end(int,int)", "way(int,int,int)", "shrink(int)");

    private static int wrong = 0;

    private static void hold(String what, boolean holds) {
        if (!holds) {
            wrong++;
            System.out.println("does not hold: " + what);
        }
    }

    public static void main(String[] args) throws Exception {
        face();
        constants();
        text();
        room();
        callsMakeNothing();
        System.out.println(wrong == 0 ? "all is as due" : wrong + " things are not as due");
        if (wrong != 0) {
            System.exit(1);
        }
    }

    private static void face() {
        Class<?> c = OrderTests.class;
        hold("public and final", Modifier.isPublic(c.getModifiers()) && Modifier.isFinal(c.getModifiers()));
        Set<String> open = new TreeSet<>();
        Set<String> names = new TreeSet<>();
        for (Method m : c.getDeclaredMethods()) {
            String said = m.toString();
            String signature = m.getName() + said.substring(said.indexOf('('));
            if (Modifier.isPrivate(m.getModifiers())) {
                continue;
            }
            open.add(signature);
            names.add(m.getName());
            hold(signature + " is public, answers an int and is no static one",
                m.getModifiers() == Modifier.PUBLIC && m.getReturnType() == int.class);
        }
        hold("the methods are those of the document: " + open, open.equals(METHODS));
        hidden(c, names);
        for (Class<?> inside : c.getDeclaredClasses()) {
            hold(inside + " is static", Modifier.isStatic(inside.getModifiers()));
            hold(inside + " is not public", !Modifier.isPublic(inside.getModifiers()));
            hidden(inside, names);
        }
        Constructor<?>[] made = c.getDeclaredConstructors();
        hold("one constructor, public and without arguments",
            made.length == 1 && made[0].getParameterCount() == 0 && Modifier.isPublic(made[0].getModifiers()));
    }

    private static void hidden(Class<?> c, Set<String> names) {
        for (Method m : c.getDeclaredMethods()) {
            boolean isOpen = c == OrderTests.class && Modifier.isPublic(m.getModifiers());
            hold(c + "." + m.getName() + " bears no public name", isOpen || !names.contains(m.getName()));
        }
        for (Field f : c.getDeclaredFields()) {
            hold(c + "." + f.getName() + " is final, if static",
                !Modifier.isStatic(f.getModifiers()) || Modifier.isFinal(f.getModifiers()));
        }
    }

    private static void constants() throws IllegalAccessException {
        Map<String, Integer> due = Map.of("NONE", -1, "UNKNOWN", -101, "OUTSIDE", -102, "ROOM", -104);
        for (Field f : OrderTests.class.getDeclaredFields()) {
            if (!Modifier.isPrivate(f.getModifiers())) {
                boolean isConstant = f.getModifiers() == (Modifier.PUBLIC | Modifier.STATIC | Modifier.FINAL);
                Integer dueHere = due.get(f.getName());
                hold(f.getName() + " is a constant of the document",
                    isConstant && f.getType() == int.class && dueHere != null && f.getInt(null) == dueHere);
            }
        }
        hold("all four are there", OrderTests.NONE + OrderTests.UNKNOWN + OrderTests.OUTSIDE + OrderTests.ROOM == -308);
    }

    private static void text() throws IOException {
        String text = Files.readString(Path.of(SOURCE)).replaceAll("(?s)/\\*.*?\\*/", "").replaceAll("//[^\n]*", "");
        for (String word : new String[] {"throw", "throws", "try", "catch", "synchronized", "assert", "package",
            "native", "volatile", "transient", "hashCode", "toString", "var"}) {
            hold("no " + word, !Pattern.compile("\\b" + word + "\\b").matcher(text).find());
        }
        hold("no lambda and no method reference", !text.contains("->") && !text.contains("::"));
        Matcher imports = Pattern.compile("import\\s+([^;]+);").matcher(text);
        while (imports.find()) {
            hold("import " + imports.group(1), imports.group(1).equals("java.util.Arrays"));
        }
    }

    /** Looks and shrinks make nothing that stays, and 500 objects fit in 7.3 million elements. */
    private static void room() throws IllegalAccessException {
        OrderTests x = new OrderTests();
        long[] before = size(x);
        fill(x);
        x.look(600);
        x.shrink(600);
        long[] after = size(x);
        hold("calls make nothing that stays: " + after[0] + " objects", before[0] == after[0]);
        hold("calls make nothing that stays: " + after[1] + " elements", before[1] == after[1]);
        hold("few objects: " + after[0], after[0] < 40);
        hold("some 12,200 elements, as README.md says: " + after[1], after[1] > 12150 && after[1] < 12250);
    }

    private static void fill(OrderTests x) {
        for (int i = 0; i < 5; i++) {
            x.vertex(i);
        }
        for (int i = 0; i < 8; i++) {
            x.arc(i % 5, (3 * i + 1) % 5, i);
        }
        for (int i = 0; i < 4; i++) {
            x.first(i, 15 - i);
        }
        x.set(3, 16);
        x.set(5, 2);
    }

    /** All calls live in one room, so what one makes counts even if it does not stay. */
    private static void callsMakeNothing() {
        ThreadMXBean threads = ManagementFactory.getThreadMXBean();
        if (!(threads instanceof com.sun.management.ThreadMXBean)) {
            return;
        }
        com.sun.management.ThreadMXBean counting = (com.sun.management.ThreadMXBean) threads;
        OrderTests x = new OrderTests();
        long me = Thread.currentThread().getId();
        counting.getThreadAllocatedBytes(me);
        long before = counting.getThreadAllocatedBytes(me);
        fill(x);
        for (int i = 0; i < 16; i++) {
            everyCall(x, i);
        }
        long made = counting.getThreadAllocatedBytes(me) - before;
        hold("some 250 calls make nothing: " + made + " bytes", made < 16 * 15);
    }

    private static void everyCall(OrderTests x, int i) {
        x.vertex(i);
        x.arc(0, 1, i);
        x.first(0, i);
        x.set(0, i);
        x.table(i, i, i);
        x.value(0, i);
        x.fold(i, i);
        x.out(i, i);
        x.law(i);
        x.about(i);
        x.look(40 * i);
        x.looked(i);
        x.end(0, i);
        x.way(0, i, 0);
        x.shrink(40 * i);
    }

    private static long[] size(Object root) throws IllegalAccessException {
        long[] sum = new long[2];
        count(root, new IdentityHashMap<>(), sum);
        return sum;
    }

    private static void count(Object o, Map<Object, Object> met, long[] sum) throws IllegalAccessException {
        if (o == null || met.put(o, o) != null) {
            return;
        }
        sum[0]++;
        if (o.getClass().isArray()) {
            sum[1] += Array.getLength(o);
            return;
        }
        for (Field f : o.getClass().getDeclaredFields()) {
            if (!Modifier.isStatic(f.getModifiers())) {
                sum[1]++;
                f.setAccessible(true);
                if (!f.getType().isPrimitive()) {
                    count(f.get(o), met, sum);
                }
            }
        }
    }
}
