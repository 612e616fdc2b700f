import java.lang.reflect.Method;
import java.util.ArrayList;
import java.util.List;
import java.util.Set;

/**
 * An object of the class beside one of the model: each call goes to both, and unlike answers are told. An object is
 * good for 512 calls: when it is used up, a new one is brought to the same state by the calls that change something.
 */
final class Pair {
    static final int MOST_CALLS = 512;
    private static final Method[] OF_MODEL = Calls.methodsOf(Model.class);
    private static final Set<String> QUESTIONS = Set.of("told", "count", "code", "end", "begin", "tail", "row",
        "window", "must", "bound", "found", "mended");

    JoineryFloor x = new JoineryFloor();
    final Model y = new Model();
    final List<String> rows = new ArrayList<>();
    int wrong = 0;
    private final List<String> changes = new ArrayList<>();
    private final List<int[]> changedBy = new ArrayList<>();
    private int used = 0;

    int call(String name, int... a) {
        keepRoom(1);
        if (!QUESTIONS.contains(name)) {
            changes.add(name);
            changedBy.add(a);
        }
        return compare(name, a);
    }

    private int compare(String name, int... a) {
        int want = Calls.answer(OF_MODEL[Calls.numberOf(name)], y, a);
        int got = Calls.on(x, name, a);
        used++;
        rows.add(Calls.text(name, a) + " = " + got);
        if (got != want) {
            wrong++;
            if (wrong == 1) {
                for (String row : rows) System.out.println("  " + row);
                System.out.println("  the last is wrong: due is " + want);
            }
        }
        return want;
    }

    private void keepRoom(int calls) {
        if (used + calls <= MOST_CALLS) return;
        if (changes.size() + calls > MOST_CALLS) throw new IllegalStateException("a run of too many calls");
        x = new JoineryFloor();
        for (int k = 0; k < changes.size(); k++) Calls.on(x, changes.get(k), changedBy.get(k));
        used = changes.size();
    }

    /** Every question whose answer the state gives. */
    void askAll() {
        for (int what = 0; what < 5; what++) call("count", what);
        call("code");
        call("end");
        for (int what = 0; what < 3; what++) call("found", what);
        int steps = y.steps.size();
        for (int i = 0; i <= steps; i++) call("row", i);
        for (int m = 0; m < y.machines.size(); m++) {
            for (int what = 0; what < 2; what++) call("bound", m, what);
        }
        for (int s = 0; s < steps; s++) {
            for (int what = 0; what < 5; what++) call("told", s, what);
            call("begin", s);
            for (int what = 0; what < 2; what++) call("tail", s, what);
            for (int what = 0; what < 2; what++) call("mended", s, what);
        }
        askWindows();
    }

    void askWindows() {
        int steps = y.steps.size();
        for (int s = 0; s < steps; s++) {
            for (int what = 0; what < 3; what++) call("window", s, what);
            for (int o = 0; o < steps; o++) call("must", s, o);
        }
    }

    /** Every place of every sheet; asked last, as it moves CODE. */
    void askSheets() {
        for (int s = 0; s < 6; s++) {
            for (int i = 0; i < 41; i++) {
                keepRoom(2);
                compare("at", s, i);
                compare("code");
            }
        }
    }
}
