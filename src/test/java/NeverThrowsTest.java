import java.lang.reflect.InvocationTargetException;
import java.lang.reflect.Method;
import java.lang.reflect.Modifier;
import java.util.ArrayList;
import java.util.Comparator;
import java.util.List;

/**
 * Calls of all kinds with numbers of all kinds, far past the 512th, none of which may throw, and none of which may be
 * refused by an answer that its promise does not name.
 */
public final class NeverThrowsTest {
    private static final Due DUE = new Due("NeverThrowsTest");
    private static final int[] EDGES = {Integer.MIN_VALUE, Integer.MIN_VALUE + 1, -1024, -33, -3, -2, -1, 0, 1, 2, 3, 4,
        7, 8, 9, 10, 11, 12, 19, 20, 29, 30, 31, 32, 39, 40, 99, 100, 150, 199, 200, 201, 220, 255, 256, 512, 999, 1000,
        1023, 1024, 1 << 20, 1 << 30, Integer.MAX_VALUE - 1, Integer.MAX_VALUE};
    private static final String[] TAPES = {"anna", "hanna", "kara", "c=1>1;else>2", "r.1|!(e<2)>3;else>4", "((", "else>1",
        "phil", "l.9&k=1>5;n.1>6;else>7", "\u00ff"};

    /** Below 0 each call may answer these alone; rule may answer -10 and less, too. */
    private static final String[] REFUSALS = {"road -1 -2 -4", "far -1 -5", "feed -2 -4", "name -2 -4", "key -5",
        "join -1 -2 -4", "part -1 -2 -4", "link -1 -2", "person -1", "tie -1 -2 -3", "word -1 -2 -4",
        "withdraw -1 -3 -4", "about -1", "root -1", "eyes -1", "can -1", "quarrel -1 -3", "could -1 -2", "last -1 -5",
        "rule -4", "finding -1 -5", "find -1 -3 -4", "found -1", "bone -1 -2 -4", "bound -2", "least -1", "set -1 -2 -4",
        "missing -1 -2 -3 -4", "fit -1", "namings -2", "only -1 -2 -5", "why -2", "give -1 -3", "take -1 -3",
        "named -1 -5", "count -1"};

    private static long seed = 7;

    public static void main(String[] args) throws Exception {
        List<Method> calls = new ArrayList<>();
        for (Method method : LastSeen.class.getDeclaredMethods()) {
            if (Modifier.isPublic(method.getModifiers())) calls.add(method);
        }
        calls.sort(Comparator.comparing(Method::getName));
        for (int run = 0; run < 60; run++) {
            LastSeen seen = new LastSeen();
            for (int call = 0; call < 3000; call++) {
                if (below(12) == 0) feed(seen, TAPES[below(TAPES.length)]);
                else one(seen, calls.get(below(calls.size())), run % 3);
            }
        }
        DUE.end();
    }

    private static boolean isNamed(String call, int answer) {
        if (answer >= 0) return true;
        if (answer <= -10) return call.equals("rule") && answer >= -210;
        for (String row : REFUSALS) {
            if (row.startsWith(call + " ")) return List.of(row.split(" ")).contains("" + answer);
        }
        return false;
    }

    private static int below(int n) {
        seed = seed * 6364136223846793005L + 1442695040888963407L;
        return (int) ((seed >>> 33) % n);
    }

    private static void feed(LastSeen seen, String text) {
        Due.feed(seen, text);
        if (below(2) == 0) seen.name();
        else seen.rule();
    }

    private static void one(LastSeen seen, Method method, int kind) throws IllegalAccessException {
        Class<?>[] types = method.getParameterTypes();
        Object[] numbers = new Object[types.length];
        for (int i = 0; i < types.length; i++) {
            int number = kind == 0 || below(6) == 0 ? EDGES[below(EDGES.length)] : below(kind == 1 ? 12 : 4) - 1;
            if (types[i] == long.class) numbers[i] = (long) number << below(33);
            else numbers[i] = number;
        }
        try {
            int answer = (Integer) method.invoke(seen, numbers);
            DUE.is(method.getName() + " may answer " + answer, 1, isNamed(method.getName(), answer) ? 1 : 0);
        } catch (InvocationTargetException thrown) {
            DUE.is(method.getName() + " threw " + thrown.getCause(), 0, 1);
        }
    }
}
