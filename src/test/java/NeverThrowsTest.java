import java.lang.reflect.InvocationTargetException;
import java.lang.reflect.Method;
import java.lang.reflect.Modifier;
import java.util.ArrayList;
import java.util.Comparator;
import java.util.List;
import java.util.Random;

/** Rule 7 of LANGUAGE.md: no call throws, for any numbers in any state, also behind the 512th call. */
public final class NeverThrowsTest {
    private static final int RUNS = 120;
    private static final int CALLS = 3000;
    private static final String SIGNS = "tnpbdlhkyz0123456789()<=>+-*/";
    private static final int[] EDGES = {
        Integer.MIN_VALUE, Integer.MIN_VALUE + 1, -1500, -2, -1, 0, 1, 2, 5, 6, 8, 9, 10, 11, 12, 20, 30, 31, 60, 99,
        180, 240, 255, 1499, 1500, 1501, Integer.MAX_VALUE - 1, Integer.MAX_VALUE};
    /** Numbers below these are told most, so that some runs fill all rows and others meet few. */
    private static final int[] MOSTLY_BELOW = {3, 8, 25, 70};

    private static final Check C = new Check();

    public static void main(String[] args) throws IllegalAccessException {
        List<Method> face = new ArrayList<>();
        for (Method method : HouseKeepers.class.getDeclaredMethods()) {
            if (Modifier.isPublic(method.getModifiers())) face.add(method);
        }
        // The order in which a machine tells methods is not fixed, and a failure is to come again.
        face.sort(Comparator.comparing(Method::getName));
        for (int run = 0; run < RUNS && C.allRight(); run++) run(face, run);
        C.finish("NeverThrowsTest");
    }

    private static void run(List<Method> face, int run) throws IllegalAccessException {
        Random random = new Random(run);
        HouseKeepers x = new HouseKeepers();
        int mostly = MOSTLY_BELOW[run % MOSTLY_BELOW.length];
        for (int i = 0; i < CALLS && C.allRight(); i++) {
            Method method = face.get(random.nextInt(face.size()));
            // Days seldom go by, or stays would soon have no room.
            if (method.getName().equals("days") && random.nextInt(10) != 0) continue;
            call(x, method, values(random, method, mostly), run, i);
        }
    }

    private static void call(HouseKeepers x, Method method, Object[] values, int run, int i) throws IllegalAccessException {
        String thrown = null;
        try {
            method.invoke(x, values);
        } catch (InvocationTargetException e) {
            thrown = e.getCause().toString();
        }
        C.due("run " + run + ", call " + i + ": " + method.getName() + " threw " + thrown, thrown == null ? 0 : 1, 0);
    }

    private static Object[] values(Random random, Method method, int mostly) {
        Class<?>[] types = method.getParameterTypes();
        Object[] values = new Object[types.length];
        for (int i = 0; i < types.length; i++) values[i] = value(random, types[i], mostly);
        return values;
    }

    private static Object value(Random random, Class<?> type, int mostly) {
        if (type == boolean.class) return random.nextBoolean();
        if (type == long.class) return random.nextInt(4) == 0 ? random.nextLong() : signs(random);
        int kind = random.nextInt(20);
        if (kind == 0) return random.nextInt();
        return kind < 4 ? EDGES[random.nextInt(EDGES.length)] : random.nextInt(mostly);
    }

    /** Eight bytes that may well be a text. */
    private static long signs(Random random) {
        long bytes = 0;
        for (int i = 0; i < 8; i++) bytes = bytes << 8 | SIGNS.charAt(random.nextInt(SIGNS.length()));
        return bytes;
    }
}
