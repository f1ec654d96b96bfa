import java.lang.reflect.InvocationTargetException;
import java.lang.reflect.Method;
import java.lang.reflect.Modifier;
import java.util.ArrayList;
import java.util.Comparator;
import java.util.List;

/** Calls of all kinds with numbers of all kinds, far past the 512th, none of which may throw. */
public final class NeverThrowsTest {
    private static final Due DUE = new Due("NeverThrowsTest");
    private static final int[] EDGES = {Integer.MIN_VALUE, Integer.MIN_VALUE + 1, -1024, -33, -3, -2, -1, 0, 1, 2, 3, 4,
        7, 8, 9, 10, 11, 12, 19, 20, 29, 30, 31, 32, 39, 40, 99, 100, 150, 199, 200, 201, 220, 255, 256, 512, 999, 1000,
        1023, 1024, 1 << 20, 1 << 30, Integer.MAX_VALUE - 1, Integer.MAX_VALUE};
    private static final String[] TAPES = {"anna", "hanna", "kara", "c=1>1;else>2", "r.1|!(e<2)>3;else>4", "((", "else>1",
        "phil", "l.9&k=1>5;n.1>6;else>7", "\u00ff"};

    private static long seed = 7;

    public static void main(String[] args) throws Exception {
        List<Method> calls = new ArrayList<>();
        for (Method method : LastSeen.class.getDeclaredMethods()) {
            if (Modifier.isPublic(method.getModifiers())) calls.add(method);
        }
        calls.sort(Comparator.comparing(Method::getName));
        for (int run = 0; run < 60; run++) {
            LastSeen seen = new LastSeen();
            for (int call = 0; call < 3000; call++) {
                if (below(12) == 0) feed(seen, TAPES[below(TAPES.length)]);
                else one(seen, calls.get(below(calls.size())), run % 3);
            }
        }
        DUE.end();
    }

    private static int below(int n) {
        seed = seed * 6364136223846793005L + 1442695040888963407L;
        return (int) ((seed >>> 33) % n);
    }

    private static void feed(LastSeen seen, String text) {
        Due.feed(seen, text);
        if (below(2) == 0) seen.name();
        else seen.rule();
    }

    private static void one(LastSeen seen, Method method, int kind) throws IllegalAccessException {
        Class<?>[] types = method.getParameterTypes();
        Object[] numbers = new Object[types.length];
        for (int i = 0; i < types.length; i++) {
            int number = kind == 0 || below(6) == 0 ? EDGES[below(EDGES.length)] : below(kind == 1 ? 12 : 4) - 1;
            if (types[i] == long.class) numbers[i] = (long) number << below(33);
            else numbers[i] = number;
        }
        try {
            int answer = (Integer) method.invoke(seen, numbers);
            DUE.is(method.getName() + " answers no less than -210", 1, answer >= -210 ? 1 : 0);
        } catch (InvocationTargetException thrown) {
            DUE.is(method.getName() + " threw " + thrown.getCause(), 0, 1);
        }
    }
}
