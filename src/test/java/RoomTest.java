import java.lang.management.ManagementFactory;
import java.lang.reflect.Array;
import java.lang.reflect.Field;
import java.lang.reflect.Modifier;
import java.util.ArrayDeque;
import java.util.Collections;
import java.util.Deque;
import java.util.IdentityHashMap;
import java.util.Set;

/** All calls of a run live in one room: an object is small, and its calls make nothing anew. */
public final class RoomTest {
    private static final int MOST_OBJECTS = 120;
    private static final int MOST_ELEMENTS_NEW = 3000;
    private static final int MOST_ELEMENTS = 20000;
    private static final long MOST_BYTES_OF_CALLS = 100000;
    private final Due due = new Due();

    public static void main(String[] args) throws Exception {
        RoomTest test = new RoomTest();
        RunTogether x = new RunTogether();
        test.hold("a new object", x, MOST_ELEMENTS_NEW);
        everything(x);
        test.hold("behind all calls", x, MOST_ELEMENTS);
        test.callsMakeNothing(x);
        test.due.close();
    }

    private static void everything(RunTogether x) {
        x.letters(8);
        Told.tell(x, "abcdefgh:3/1;bcdefgha:4/2;a;b;c:0/3;aa;aaa;aaaa;aaaaa;ha:2;hab;gh:7/1;");
        Told.lines(x, "abcdefghabcdefghaaaaaaaa", "hghghabababababcabcdhhgf", "hgfedcbahgfedcbahgfedcba", "gabhcadebcfagehdbafhcegd");
        Told.write(x, "abcdefghaaaaabcdefghhhhhhaaaaaaabbbbaahabghabab");
        x.readings();
        x.reading(1, 5);
        for (int what = 0; what < 4; what++) x.best(what);
        x.cheapest(3);
        x.end(9);
        for (int what = 0; what < 3; what++) x.within(what);
        x.key(-1);
        x.strange(-1);
        x.ways(40);
        x.rows(20);
        x.patched(0);
        x.totals();
        x.uses(0);
        x.fresh(3, 0);
        x.fresh(4, 0);
        x.learn(20);
        x.follows(1, 2, true);
        x.price(1, 4);
        x.word(1, 1);
        x.count(3);
        x.fault();
    }

    private void hold(String when, RunTogether x, int most) throws IllegalAccessException {
        Set<Object> seen = Collections.newSetFromMap(new IdentityHashMap<>());
        Deque<Object> open = new ArrayDeque<>();
        open.add(x);
        int elements = 0;
        while (!open.isEmpty()) {
            Object one = open.poll();
            if (!seen.add(one)) continue;
            if (one.getClass().isArray()) {
                elements += Array.getLength(one);
                if (one instanceof Object[] many) {
                    for (Object part : many) if (part != null) open.add(part);
                }
                continue;
            }
            for (Field field : one.getClass().getDeclaredFields()) {
                if (Modifier.isStatic(field.getModifiers())) continue;
                elements++;
                field.setAccessible(true);
                Object part = field.get(one);
                if (!field.getType().isPrimitive() && part != null) open.add(part);
            }
        }
        System.out.println(when + ": " + seen.size() + " objects, " + elements + " fields and elements");
        due.is(when + ": few objects", seen.size() <= MOST_OBJECTS ? 1 : 0, 1);
        due.is(when + ": few elements", elements <= most ? 1 : 0, 1);
    }

    private void callsMakeNothing(RunTogether x) {
        com.sun.management.ThreadMXBean beans = (com.sun.management.ThreadMXBean) ManagementFactory.getThreadMXBean();
        long id = Thread.currentThread().getId();
        everything(x);
        long before = beans.getThreadAllocatedBytes(id);
        for (int i = 0; i < 50; i++) everything(x);
        long made = beans.getThreadAllocatedBytes(id) - before;
        System.out.println("50 rounds of all calls made " + made + " bytes, the test's own among them");
        due.is("calls make nothing anew", made <= MOST_BYTES_OF_CALLS ? 1 : 0, 1);
    }
}
