import java.lang.reflect.Method;
import java.util.ArrayList;
import java.util.Arrays;
import java.util.List;

/** An object of the class beside one of the model: each call goes to both, and unlike answers are told. */
final class Pair {
    static final String[] CALLS = {"machine", "piece", "step", "told", "count", "sheet", "tear", "put", "at", "copy",
        "read", "code", "swap", "lay", "end", "begin", "tail", "row", "rule", "better", "windows", "window", "must",
        "bound", "least", "found", "fail", "mended"};
    static final int[] ARGUMENTS = {2, 1, 3, 2, 1, 3, 1, 4, 2, 5, 2, 0, 2, 2, 0, 1, 2, 1, 1, 1, 1, 2, 2, 2, 1, 1, 3, 2};

    private static final Method[] OF_CLASS = methodsOf(JoineryFloor.class);
    private static final Method[] OF_MODEL = methodsOf(Model.class);

    final JoineryFloor x = new JoineryFloor();
    final Model y = new Model();
    final List<String> rows = new ArrayList<>();
    int wrong = 0;

    int call(String name, int... a) {
        int call = Arrays.asList(CALLS).indexOf(name);
        StringBuilder text = new StringBuilder(name).append('(');
        for (int k = 0; k < a.length; k++) text.append(k == 0 ? "" : ", ").append(a[k]);
        int want = answer(OF_MODEL[call], y, a);
        int got = answer(OF_CLASS[call], x, a);
        rows.add(text.append(") = ").append(got).toString());
        if (got != want) {
            wrong++;
            if (wrong == 1) {
                for (String row : rows) System.out.println("  " + row);
                System.out.println("  the last is wrong: due is " + want);
            }
        }
        return want;
    }

    /** Every question whose answer the state gives. */
    void askAll() {
        for (int what = 0; what < 5; what++) call("count", what);
        call("code");
        call("end");
        for (int what = 0; what < 3; what++) call("found", what);
        int steps = y.steps.size();
        for (int i = 0; i <= steps; i++) call("row", i);
        for (int s = 0; s < steps; s++) {
            for (int what = 0; what < 5; what++) call("told", s, what);
            call("begin", s);
            for (int what = 0; what < 2; what++) call("tail", s, what);
            for (int what = 0; what < 3; what++) call("window", s, what);
            for (int what = 0; what < 2; what++) call("mended", s, what);
            for (int o = 0; o < steps; o++) call("must", s, o);
        }
    }

    /** Every place of every sheet; asked last, as it moves CODE. */
    void askSheets() {
        for (int s = 0; s < 6; s++) {
            for (int i = 0; i < 41; i++) {
                call("at", s, i);
                call("code");
            }
        }
    }

    /** The methods of the face in another class, in the row of CALLS. */
    private static Method[] methodsOf(Class<?> type) {
        Method[] methods = new Method[CALLS.length];
        for (Method m : type.getDeclaredMethods()) {
            int call = Arrays.asList(CALLS).indexOf(m.getName());
            if (call >= 0 && m.getParameterCount() == ARGUMENTS[call]) methods[call] = m;
        }
        return methods;
    }

    private static int answer(Method method, Object of, int[] a) {
        Object[] arguments = new Object[a.length];
        for (int k = 0; k < a.length; k++) arguments[k] = a[k];
        try {
            return (int) method.invoke(of, arguments);
        } catch (ReflectiveOperationException e) {
            throw new IllegalStateException(method.getName() + Arrays.toString(a), e);
        }
    }
}
