import java.lang.reflect.InvocationTargetException;
import java.lang.reflect.Method;
import java.util.ArrayList;
import java.util.HashMap;
import java.util.List;
import java.util.Map;

/** The class and the oracle side by side: each call goes to both, and both have to answer the same. */
final class Pair {
    private static final Map<String, Method> OURS = methodsOf(SixHands.class);
    private static final Map<String, Method> THEIRS = methodsOf(Oracle.class);

    final List<String> told = new ArrayList<>();
    final SixHands ours;
    final Oracle theirs;
    boolean differs;

    Pair(int places) {
        ours = new SixHands(places);
        theirs = new Oracle(places);
        told.add("new SixHands(" + places + ")");
    }

    private static Map<String, Method> methodsOf(Class<?> type) {
        Map<String, Method> methods = new HashMap<>();
        for (Method method : type.getDeclaredMethods()) {
            if (java.lang.reflect.Modifier.isPublic(method.getModifiers())) {
                methods.put(method.getName(), method);
            }
        }
        return methods;
    }

    private static int answer(Method method, Object target, Object[] args) {
        try {
            Object value = method.invoke(target, args);
            return value instanceof Boolean truth ? (truth ? 1 : 0) : (Integer) value;
        } catch (IllegalAccessException | InvocationTargetException e) {
            throw new IllegalStateException(method.getName(), e);
        }
    }

    /** What the oracle answers; a difference is noted. */
    int call(String name, int... numbers) {
        Object[] args = new Object[numbers.length];
        for (int i = 0; i < numbers.length; i++) {
            args[i] = numbers[i];
        }
        int due = answer(THEIRS.get(name), theirs, args);
        int got = answer(OURS.get(name), ours, args);
        told.add(name + java.util.Arrays.toString(numbers) + " -> " + got + (got == due ? "" : ", due " + due));
        differs |= got != due;
        return due;
    }

    /** Puts a text on the tape and reads it: its number. */
    int read(String text) {
        call("end", 0);
        put(text);
        told.add("   # " + text.replace("\n", "\\n"));
        return call("text");
    }

    /** Feeds the signs of a text, and ends the tape behind them. */
    void put(String text) {
        int length = theirs.about(8);
        for (int[] words : Due.words(text)) {
            call("feed", words);
        }
        call("end", length + text.length());
    }
}
