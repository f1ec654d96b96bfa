import java.lang.reflect.Method;
import java.util.ArrayList;
import java.util.HashMap;
import java.util.List;
import java.util.Map;

/** Calls told as texts, "road 0 1 5", so that a table can hold them; MIN and MAX are the least and the greatest int. */
final class Calls {
    private static final Map<String, Method> METHODS = new HashMap<>();

    private Calls() {
    }

    /** The answer of a call told as a text. */
    static int answer(LastSeen seen, String call) {
        String[] parts = call.trim().split(" +");
        Method method = method(parts[0]);
        Class<?>[] types = method.getParameterTypes();
        if (types.length != parts.length - 1) throw new IllegalArgumentException(call);
        Object[] numbers = new Object[types.length];
        for (int i = 0; i < types.length; i++) {
            if (types[i] == long.class) numbers[i] = Long.parseLong(parts[i + 1]);
            else numbers[i] = number(parts[i + 1]);
        }
        try {
            return (Integer) method.invoke(seen, numbers);
        } catch (ReflectiveOperationException thrown) {
            throw new IllegalStateException(call, thrown);
        }
    }

    /** The answers of calls with ; between them. */
    static List<Integer> answers(LastSeen seen, String calls) {
        List<Integer> answers = new ArrayList<>();
        for (String call : calls.split(";")) answers.add(answer(seen, call));
        return answers;
    }

    private static int number(String text) {
        if (text.equals("MIN")) return Integer.MIN_VALUE;
        return text.equals("MAX") ? Integer.MAX_VALUE : Integer.parseInt(text);
    }

    private static Method method(String name) {
        if (METHODS.isEmpty()) {
            for (Method method : LastSeen.class.getDeclaredMethods()) METHODS.put(method.getName(), method);
        }
        return METHODS.get(name);
    }
}
