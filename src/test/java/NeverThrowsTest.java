import java.lang.reflect.InvocationTargetException;
import java.lang.reflect.Method;
import java.lang.reflect.Modifier;
import java.util.ArrayList;
import java.util.Comparator;
import java.util.List;
import java.util.Random;

/** Any arguments in any state: no call throws, and the same calls on two objects answer the same. */
public final class NeverThrowsTest {
    private static final int RUNS = 300;
    private static final int CALLS = 512;
    private static final int[] EDGES = {
        Integer.MIN_VALUE, Integer.MIN_VALUE + 1, -1000000000, -101, -100, -13, -1, 0, 1, 2, 3, 4, 5, 6, 7, 8,
        11, 12, 13, 19, 20, 21, 31, 32, 33, 49, 50, 51, 100, 101, 500, 501, Integer.MAX_VALUE - 1, Integer.MAX_VALUE,
    };

    public static void main(String[] args) throws IllegalAccessException {
        List<Method> calls = new ArrayList<>();
        for (Method method : FellersOrder.class.getDeclaredMethods()) {
            if (Modifier.isPublic(method.getModifiers())) {
                calls.add(method);
            }
        }
        calls.sort(Comparator.comparing(Method::getName));
        for (int run = 0; run < RUNS; run++) {
            if (!oneRun(calls, run)) {
                System.exit(1);
            }
        }
        System.out.println("no call threw");
    }

    private static boolean oneRun(List<Method> calls, int run) throws IllegalAccessException {
        Random random = new Random(run);
        FellersOrder x = new FellersOrder();
        FellersOrder twin = new FellersOrder();
        for (int i = 0; i < CALLS; i++) {
            if (random.nextInt(12) == 0) {
                x.job(1 + i % 9, i % 7);
                twin.job(1 + i % 9, i % 7);
                continue;
            }
            Method call = calls.get(random.nextInt(calls.size()));
            Object[] with = new Object[call.getParameterCount()];
            for (int p = 0; p < with.length; p++) {
                with[p] = random.nextInt(3) == 0 ? EDGES[random.nextInt(EDGES.length)] : random.nextInt(13) - 1;
            }
            try {
                Object one = call.invoke(x, with);
                Object other = call.invoke(twin, with);
                if (!one.equals(other)) {
                    System.out.println("run " + run + ": " + call.getName() + " answered " + one + " and " + other);
                    return false;
                }
            } catch (InvocationTargetException e) {
                System.out.println("run " + run + ": " + call.getName() + List.of(with) + " threw " + e.getCause());
                return false;
            }
        }
        return true;
    }
}
