import java.lang.reflect.Method;
import java.util.Arrays;

/** The calls of the face by their names, so that tests can hold them in rows. */
final class Calls {
    static final String[] NAMES = {"machine", "piece", "step", "told", "count", "sheet", "tear", "put", "at", "copy",
        "read", "code", "swap", "lay", "end", "begin", "tail", "row", "rule", "better", "windows", "window", "must",
        "bound", "least", "found", "fail", "mended"};
    static final int[] ARGUMENTS = {2, 1, 3, 2, 1, 3, 1, 4, 2, 5, 2, 0, 2, 2, 0, 1, 2, 1, 1, 1, 1, 2, 2, 2, 1, 1, 3, 2};

    private static final Method[] OF_CLASS = methodsOf(JoineryFloor.class);

    private Calls() {
    }

    static int on(JoineryFloor x, String name, int... a) {
        return answer(OF_CLASS[numberOf(name)], x, a);
    }

    static int numberOf(String name) {
        return Arrays.asList(NAMES).indexOf(name);
    }

    static String text(String name, int... a) {
        StringBuilder text = new StringBuilder(name).append('(');
        for (int k = 0; k < a.length; k++) text.append(k == 0 ? "" : ", ").append(a[k]);
        return text.append(')').toString();
    }

    /** The methods of the face in a class that has them all, in the row of NAMES. */
    static Method[] methodsOf(Class<?> type) {
        Method[] methods = new Method[NAMES.length];
        for (Method m : type.getDeclaredMethods()) {
            int call = numberOf(m.getName());
            if (call >= 0 && m.getParameterCount() == ARGUMENTS[call]) methods[call] = m;
        }
        return methods;
    }

    static int answer(Method method, Object of, int... a) {
        Object[] arguments = new Object[a.length];
        for (int k = 0; k < a.length; k++) arguments[k] = a[k];
        try {
            return (int) method.invoke(of, arguments);
        } catch (ReflectiveOperationException e) {
            throw new IllegalStateException(method.getName() + Arrays.toString(a), e);
        }
    }
}
