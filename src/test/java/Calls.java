import java.lang.reflect.Method;
import java.util.Arrays;
import java.util.Map;
import java.util.function.Function;
import java.util.stream.Collectors;

/** Makes the calls that rows of a test tell: "move(3, -9, 9)", with MIN and MAX for the least and the greatest int. */
final class Calls {
    private static final Map<String, Method> METHODS = Arrays.stream(LaneOrder.class.getMethods())
        .filter(method -> method.getDeclaringClass() == LaneOrder.class)
        .collect(Collectors.toMap(Method::getName, Function.identity()));
    private static final Map<String, Integer> NUMBERS = Map.of(
        "NONE", -1, "UNKNOWN", -101, "OUTSIDE", -102, "STATE", -103, "FULL", -104, "MIN", Integer.MIN_VALUE, "MAX", Integer.MAX_VALUE);

    private Calls() {
    }

    static long number(String word) {
        return NUMBERS.containsKey(word) ? NUMBERS.get(word) : Long.parseLong(word);
    }

    static long ask(LaneOrder x, String call) {
        int open = call.indexOf('(');
        Method method = METHODS.get(call.substring(0, open));
        String inside = call.substring(open + 1, call.length() - 1);
        String[] words = inside.isEmpty() ? new String[0] : inside.split(", ");
        if (method == null || method.getParameterCount() != words.length) {
            throw new IllegalArgumentException("there is no call " + call);
        }
        Object[] values = new Object[words.length];
        for (int i = 0; i < words.length; i++) {
            boolean isTruth = method.getParameterTypes()[i] == boolean.class;
            values[i] = isTruth ? (Object) Boolean.valueOf(words[i]) : (Object) (int) number(words[i]);
        }
        try {
            return ((Number) method.invoke(x, values)).longValue();
        } catch (ReflectiveOperationException e) {
            throw new IllegalStateException(call + " has thrown", e);
        }
    }

    /** Calls that only lead to a state: none of them may be refused. */
    static LaneOrder make(LaneOrder x, String... calls) {
        for (String call : calls) {
            if (ask(x, call) <= -100) {
                throw new IllegalStateException(call + " is refused");
            }
        }
        return x;
    }

    static LaneOrder type(LaneOrder x, String text) {
        for (char c : text.toCharArray()) {
            make(x, "letter(" + (int) c + ")");
        }
        return x;
    }

    static LaneOrder typed(String text) {
        return type(new LaneOrder(), text);
    }

    static LaneOrder read(String page) {
        return make(typed(page), "page()");
    }
}
