import java.lang.reflect.InvocationTargetException;
import java.lang.reflect.Method;
import java.util.ArrayList;
import java.util.Comparator;
import java.util.List;
import java.util.Random;

/** Every call with whatever arguments, in whatever state, far beyond 512 calls: none may throw, two objects answer alike. */
public final class WildTest {
    private static final int[] EDGES = {Integer.MIN_VALUE, Integer.MIN_VALUE + 1, -2000, -101, -1, 0, 1, 2, 9, 10, 39, 40, 50, 99, 100, 101,
        102, 200, 299, 300, 360, 500, 512, 1023, 1999, 2000, 1 << 30, Integer.MAX_VALUE - 1, Integer.MAX_VALUE};

    private static Object argument(Class<?> type, Random r) {
        if (type == boolean.class) return r.nextBoolean();
        int k = r.nextInt(10);
        return k < 1 ? EDGES[r.nextInt(EDGES.length)] : k < 2 ? r.nextInt() : k < 3 ? r.nextInt(2000) : r.nextInt(k < 8 ? 4 : 40);
    }

    public static void main(String[] args) throws Exception {
        List<Method> calls = new ArrayList<>();
        for (Method m : CountTreaty.class.getDeclaredMethods()) {
            if (java.lang.reflect.Modifier.isPublic(m.getModifiers())) calls.add(m);
        }
        calls.sort(Comparator.comparing(Method::getName));
        int made = 0;
        for (int seed = 0; seed < 150; seed++) {
            Random r = new Random(seed);
            CountTreaty x = new CountTreaty();
            CountTreaty y = new CountTreaty();
            for (int n = 0; n < 3000; n++) {
                Method m = calls.get(r.nextInt(calls.size()));
                if (m.getName().equals("back") && r.nextInt(20) > 0) continue;
                Object[] a = new Object[m.getParameterCount()];
                for (int i = 0; i < a.length; i++) a[i] = argument(m.getParameterTypes()[i], r);
                try {
                    made++;
                    if (!m.invoke(x, a).equals(m.invoke(y, a))) throw new IllegalStateException("two objects answer unlike");
                } catch (InvocationTargetException e) {
                    System.out.println("seed " + seed + ", call " + n + ": " + m.getName() + java.util.Arrays.toString(a));
                    e.getCause().printStackTrace(System.out);
                    System.exit(1);
                }
            }
        }
        System.out.println(made + " wild calls, none threw");
    }
}
