import java.lang.reflect.Array;
import java.lang.reflect.Field;
import java.lang.reflect.Modifier;
import java.util.IdentityHashMap;
import java.util.Map;

/** All calls of a run live in one room: an object is made once, and its calls make nothing that is kept or dropped. */
public final class RoomTest {
    private static long cells;

    public static void main(String[] args) throws IllegalAccessException {
        TaintHouse house = new TaintHouse();
        Map<Object, Boolean> before = new IdentityHashMap<>();
        walk(house, before);
        System.out.println(before.size() + " objects and arrays, " + cells + " fields and elements in a new object");
        Bench.due("a new object is small", before.size() < 300 && cells < 100000, true);
        long cellsBefore = cells;

        work(house);
        Map<Object, Boolean> after = new IdentityHashMap<>();
        cells = 0;
        walk(house, after);
        Bench.due("calls keep nothing", after.size(), before.size());
        Bench.due("calls keep nothing more", cells, cellsBefore);

        for (int i = 0; i < 200; i++) {
            work(house);
        }
        com.sun.management.ThreadMXBean beans = (com.sun.management.ThreadMXBean) java.lang.management.ManagementFactory.getThreadMXBean();
        long start = beans.getCurrentThreadAllocatedBytes();
        for (int i = 0; i < 100; i++) {
            work(house);
        }
        long made = beans.getCurrentThreadAllocatedBytes() - start;
        // The asking itself makes a little; a single int array of a hundred in each of the calls would be 40,000 bytes.
        Bench.due("calls make nothing (" + made + " bytes)", made < 4000, true);
        Bench.finish();
    }

    /** How many fields and elements an object has, with all that it holds. */
    static long cellsOf(Object object) throws IllegalAccessException {
        cells = 0;
        walk(object, new IdentityHashMap<>());
        return cells;
    }

    private static final int[][] RIGHT = words("class A { field a int; field b ref; static s int; virtual v(int) int { load 1; ret; } "
        + "method f(int) int { push 9; ints; store 1; x: new A; load 0; virt A v; pop; load 0; sink 1; inc 0 1; goto x; } }");
    private static final int[][] FAULTY = words("class A { method f() none { add; } } class B { field x int; }");
    private static final int[][] WRONG = words("class A { method f() none { abcdefghijklmnop: } }");

    private static int[][] words(String text) {
        int[][] all = new int[text.length() / 20 + 1][5];
        for (int i = 0; i < all.length * 20; i++) {
            all[i / 20][i / 4 % 5] |= (i < text.length() ? text.charAt(i) : ' ') << (24 - i % 4 * 8);
        }
        return all;
    }

    private static int read(TaintHouse house, int[][] words) {
        for (int[] row : words) {
            house.feed(row[0], row[1], row[2], row[3], row[4]);
        }
        return house.text();
    }

    private static void work(TaintHouse house) {
        int sum = read(house, WRONG) + read(house, FAULTY) + house.place();
        sum += read(house, RIGHT);
        house.argument(0, 3, 4);
        sum += house.run(1) + house.run(0);
        sum += house.result(3) + house.event(3, 1) + house.object(2, 0) + house.slot(0, 1, 1) + house.stat(0, 1);
        sum += house.type(7, 1) + house.method(1, 5) + house.count(4) + house.flows(7) + house.policy(1, 4) + house.input(1, 4);
        if (sum == 12345) {
            System.out.println("so that nothing is left out");
        }
    }

    private static void walk(Object object, Map<Object, Boolean> seen) throws IllegalAccessException {
        if (object == null || object instanceof String || seen.put(object, true) != null) {
            return;
        }
        Class<?> type = object.getClass();
        if (type.isArray()) {
            cells += Array.getLength(object);
            for (int i = 0; !type.getComponentType().isPrimitive() && i < Array.getLength(object); i++) {
                walk(Array.get(object, i), seen);
            }
            return;
        }
        for (Field field : type.getDeclaredFields()) {
            if (!Modifier.isStatic(field.getModifiers())) {
                cells++;
                field.setAccessible(true);
                if (!field.getType().isPrimitive()) {
                    walk(field.get(object), seen);
                }
            }
        }
    }
}
