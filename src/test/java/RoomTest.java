import java.lang.management.ManagementFactory;
import java.lang.reflect.Array;
import java.lang.reflect.Field;
import java.lang.reflect.Modifier;
import java.util.ArrayDeque;
import java.util.Collections;
import java.util.Deque;
import java.util.IdentityHashMap;
import java.util.Set;

/** All calls of a run live in one room: what an object holds is little, and no call adds to it. */
public final class RoomTest extends Checks {
    private static final int MOST_OBJECTS = 100;
    private static final int MOST_ELEMENTS = 10000;
    // The host itself may take room in some of them (it loads classes in the first), the calls in all.
    private static final int MEASURED_RUNS = 5;

    public static void main(String[] args) {
        test("a new object holds little", RoomTest::newObjectIsSmall);
        test("512 calls leave no more than there was", RoomTest::callsKeepNothing);
        test("no call makes an object", RoomTest::callsMakeNothing);
        finish();
    }

    private static void newObjectIsSmall() {
        int[] held = held(new FellersOrder());
        due("whether " + held[0] + " objects are few", held[0] <= MOST_OBJECTS ? 1 : 0, 1);
        due("whether " + held[1] + " elements are few", held[1] <= MOST_ELEMENTS ? 1 : 0, 1);
    }

    private static void callsKeepNothing() {
        FellersOrder x = new FellersOrder();
        int[] before = held(x);
        wholeRun(x);
        int[] after = held(x);
        due("objects behind the run", after[0], before[0]);
        due("elements behind the run", after[1], before[1]);
    }

    private static void callsMakeNothing() {
        if (!(ManagementFactory.getThreadMXBean() instanceof com.sun.management.ThreadMXBean)) {
            return;
        }
        com.sun.management.ThreadMXBean bean = (com.sun.management.ThreadMXBean) ManagementFactory.getThreadMXBean();
        if (!bean.isThreadAllocatedMemorySupported()) {
            return;
        }
        long least = Long.MAX_VALUE;
        for (int run = 0; run < MEASURED_RUNS; run++) {
            least = Math.min(least, bytesOfRun(bean));
        }
        due("bytes that a run takes", (int) Math.min(least, HIGH), 0);
    }

    private static long bytesOfRun(com.sun.management.ThreadMXBean bean) {
        long thread = Thread.currentThread().getId();
        FellersOrder x = new FellersOrder();
        long before = bean.getThreadAllocatedBytes(thread);
        wholeRun(x);
        return bean.getThreadAllocatedBytes(thread) - before;
    }

    /** 512 calls, all of the face among them, most of them in a full yard that changes each time. */
    private static void wholeRun(FellersOrder x) {
        int calls = 0;
        x.sheet(0, 1, 20);
        x.cell(0, 1, 5);
        x.cell(0, 2, 6);
        for (int job = 0; job < 11; job++) {
            x.job(1 + job, 12 - job);
        }
        x.fromSheet(0, 1, 1);
        calls += 15;
        for (int turn = 0; turn < 17; turn++) {
            int job = turn % 12;
            x.lay(job, (job + 1) % 12);
            x.set(job, turn % 3, 1 + turn);
            askAll(x, job);
            x.put(job);
            x.act(job, 3, turn);
            x.trace(0);
            x.forge(0, turn % 7, turn);
            x.undo();
            calls += 7 + 22;
        }
        x.free(0, 1);
        x.clear();
        x.job(0, 0);
        x.undo();
        due("calls of a run", calls + 4, 512);
    }

    private static void askAll(FellersOrder x, int job) {
        x.told(job, 3);
        x.told(job, 7);
        x.ahead(0, job);
        x.count(3);
        x.count(4);
        x.keeps();
        x.why(0);
        x.why(1);
        x.cost();
        x.swap(0);
        x.block(0, 0);
        x.block(1, 2);
        x.least();
        x.best(0);
        x.best(job);
        x.many();
        x.fixed(0, job);
        x.fixed(job, 0);
        x.series();
        x.shows(0);
        x.turned();
        x.status();
    }

    /** How many objects and arrays an object holds, itself too, and how many fields and elements these. */
    private static int[] held(Object root) {
        Set<Object> seen = Collections.newSetFromMap(new IdentityHashMap<>());
        Deque<Object> open = new ArrayDeque<>();
        open.add(root);
        seen.add(root);
        int elements = 0;
        while (!open.isEmpty()) {
            Object next = open.remove();
            elements += next.getClass().isArray() ? lookThroughArray(next, seen, open) : lookThroughFields(next, seen, open);
        }
        return new int[] {seen.size(), elements};
    }

    private static int lookThroughArray(Object array, Set<Object> seen, Deque<Object> open) {
        int length = Array.getLength(array);
        if (!array.getClass().getComponentType().isPrimitive()) {
            for (int i = 0; i < length; i++) {
                meet(Array.get(array, i), seen, open);
            }
        }
        return length;
    }

    private static int lookThroughFields(Object object, Set<Object> seen, Deque<Object> open) {
        int fields = 0;
        for (Class<?> type = object.getClass(); type != Object.class; type = type.getSuperclass()) {
            for (Field field : type.getDeclaredFields()) {
                if (!Modifier.isStatic(field.getModifiers())) {
                    fields++;
                    if (!field.getType().isPrimitive()) {
                        meet(valueOf(field, object), seen, open);
                    }
                }
            }
        }
        return fields;
    }

    private static void meet(Object value, Set<Object> seen, Deque<Object> open) {
        if (value != null && seen.add(value)) {
            open.add(value);
        }
    }

    private static Object valueOf(Field field, Object object) {
        field.setAccessible(true);
        try {
            return field.get(object);
        } catch (IllegalAccessException e) {
            throw new IllegalStateException(e);
        }
    }
}
