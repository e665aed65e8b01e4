import java.lang.reflect.InvocationTargetException;
import java.lang.reflect.Method;
import java.lang.reflect.Modifier;
import java.util.ArrayList;
import java.util.HashMap;
import java.util.List;
import java.util.Map;

/**
 * An object that is called by words: "paint 0 1" is paint(0, 1). It keeps its calls, so that all of them can
 * be done once more on another object, and it keeps to the 512 calls that the document answers for.
 */
final class Called {
    static final int MOST_CALLS = 512;
    private static final Map<String, Method> FACE = new HashMap<>();

    static {
        for (Method method : PartSitters.class.getDeclaredMethods()) {
            if (Modifier.isPublic(method.getModifiers())) {
                FACE.put(method.getName(), method);
            }
        }
    }

    private record Call(Method method, Object[] numbers) {
    }

    private final PartSitters x = new PartSitters();
    private final List<Call> done = new ArrayList<>();

    /** A new object with the same calls behind it. */
    Called again() {
        Called other = new Called();
        for (Call call : done) {
            other.make(call);
        }
        return other;
    }

    long call(String words) {
        return make(parse(words));
    }

    int calls() {
        return done.size();
    }

    private long make(Call call) {
        if (done.size() == MOST_CALLS) {
            throw new IllegalStateException("the 513th call of an object: its answer is free");
        }
        done.add(call);
        try {
            return ((Number) call.method.invoke(x, call.numbers)).longValue();
        } catch (InvocationTargetException e) {
            throw new IllegalStateException(call.method.getName() + " threw " + e.getCause());
        } catch (IllegalAccessException e) {
            throw new IllegalStateException(e);
        }
    }

    private static Call parse(String words) {
        String[] word = words.trim().split(" +");
        Method method = FACE.get(word[0]);
        if (method == null || method.getParameterCount() != word.length - 1) {
            throw new IllegalArgumentException("no such call: " + words);
        }
        Object[] numbers = new Object[word.length - 1];
        for (int i = 0; i < numbers.length; i++) {
            boolean isTruth = method.getParameterTypes()[i] == boolean.class;
            numbers[i] = isTruth ? (Object) truth(word[i + 1]) : (Object) number(word[i + 1]);
        }
        return new Call(method, numbers);
    }

    private static Boolean truth(String word) {
        if (!word.equals("yes") && !word.equals("no")) {
            throw new IllegalArgumentException("neither yes nor no: " + word);
        }
        return word.equals("yes");
    }

    private static Integer number(String word) {
        switch (word) {
            case "MIN": return Integer.MIN_VALUE;
            case "MAX": return Integer.MAX_VALUE;
            default: return Integer.valueOf(word);
        }
    }
}
