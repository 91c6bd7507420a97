import java.lang.reflect.InvocationTargetException;
import java.lang.reflect.Method;
import java.lang.reflect.Modifier;
import java.util.ArrayList;
import java.util.HashMap;
import java.util.List;
import java.util.Map;

/**
 * A QuotedBooks and a Model that get the same calls, till the first answer that is not the same. What a
 * 513th call would answer is free: none is made.
 */
final class Twin {
    static final int MOST_CALLS = 512;
    private static final Map<String, Method> OURS = methodsOf(QuotedBooks.class);
    private static final Map<String, Method> THEIRS = methodsOf(Model.class);

    final Model model = new Model();
    private final QuotedBooks ours = new QuotedBooks();
    private final List<String> told = new ArrayList<>();
    private int calls;
    private boolean failed;

    private static Map<String, Method> methodsOf(Class<?> type) {
        Map<String, Method> all = new HashMap<>();
        for (Method m : type.getDeclaredMethods()) {
            if (!Modifier.isPrivate(m.getModifiers()) && !m.isSynthetic()) all.put(m.getName(), m);
        }
        return all;
    }

    /** How many arguments each call of the face takes. */
    static Map<String, Integer> face() {
        Map<String, Integer> all = new HashMap<>();
        OURS.values().stream().filter(m -> Modifier.isPublic(m.getModifiers()))
                .forEach(m -> all.put(m.getName(), m.getParameterCount()));
        return all;
    }

    boolean failed() {
        return failed;
    }

    int calls() {
        return calls;
    }

    void print() {
        told.forEach(line -> System.out.println("  " + line));
    }

    private static long answer(Method m, Object on, long[] args) throws InvocationTargetException {
        Object[] boxed = new Object[args.length];
        for (int i = 0; i < args.length; i++) {
            boxed[i] = m.getParameterTypes()[i] == long.class ? (Object) args[i] : (Object) (int) args[i];
        }
        try {
            Object a = m.invoke(on, boxed);
            return a instanceof Boolean b ? (b ? 1 : 0) : ((Number) a).longValue();
        } catch (IllegalAccessException e) {
            throw new IllegalStateException(e);
        }
    }

    /** The answer that is due. */
    long call(String name, long... args) {
        if (failed || calls >= MOST_CALLS) return -1;
        calls++;
        StringBuilder line = new StringBuilder(name).append("(");
        for (int i = 0; i < args.length; i++) line.append(i == 0 ? "" : ", ").append(args[i]);
        line.append(")");
        try {
            long want = answer(THEIRS.get(name), model, args);
            long got = answer(OURS.get(name), ours, args);
            failed = got != want;
            told.add(line + " = " + got + (failed ? ", due is " + want : ""));
            return want;
        } catch (InvocationTargetException e) {
            failed = true;
            told.add(line + " threw " + e.getCause());
            return -1;
        }
    }

    void countAll() {
        for (int what = -1; what < 30; what++) call("count", what);
    }
}
