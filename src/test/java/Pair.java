import java.util.ArrayList;
import java.util.List;

/** An object of the class beside one of the model: each call goes to both, and unlike answers are told. */
final class Pair {
    static final String[] CALLS = {"machine", "piece", "step", "told", "count", "sheet", "tear", "put", "at", "copy",
        "read", "code", "swap", "lay", "end", "begin", "tail", "row", "rule", "better", "windows", "window", "must",
        "bound", "least", "found", "fail", "mended"};
    static final int[] ARGUMENTS = {2, 1, 3, 2, 1, 3, 1, 4, 2, 5, 2, 0, 2, 2, 0, 1, 2, 1, 1, 1, 1, 2, 2, 2, 1, 1, 3, 2};

    final JoineryFloor x = new JoineryFloor();
    final Model y = new Model();
    final List<String> rows = new ArrayList<>();
    int wrong = 0;

    static int numberOf(String call) {
        for (int k = 0; k < CALLS.length; k++) if (CALLS[k].equals(call)) return k;
        throw new IllegalArgumentException(call);
    }

    int call(String name, int... a) {
        return call(numberOf(name), a);
    }

    int call(int call, int... a) {
        if (a.length != ARGUMENTS[call]) throw new IllegalArgumentException(CALLS[call]);
        StringBuilder text = new StringBuilder(CALLS[call]).append('(');
        for (int k = 0; k < a.length; k++) text.append(k == 0 ? "" : ", ").append(a[k]);
        int want = ofModel(call, a);
        int got = ofClass(call, a);
        rows.add(text.append(") = ").append(got).toString());
        if (got != want) {
            wrong++;
            if (wrong == 1) {
                for (String row : rows) System.out.println("  " + row);
                System.out.println("  the last is wrong: due is " + want);
            }
        }
        return want;
    }

    /** Every question whose answer the state gives. */
    void askAll() {
        for (int what = 0; what < 5; what++) call("count", what);
        call("code");
        call("end");
        for (int what = 0; what < 3; what++) call("found", what);
        int steps = y.steps.size();
        for (int i = 0; i <= steps; i++) call("row", i);
        for (int s = 0; s < steps; s++) {
            for (int what = 0; what < 5; what++) call("told", s, what);
            call("begin", s);
            for (int what = 0; what < 2; what++) call("tail", s, what);
            for (int what = 0; what < 3; what++) call("window", s, what);
            for (int what = 0; what < 2; what++) call("mended", s, what);
            for (int o = 0; o < steps; o++) call("must", s, o);
        }
    }

    /** Every place of every sheet; asked last, as it moves CODE. */
    void askSheets() {
        for (int s = 0; s < 6; s++) {
            for (int i = 0; i < 41; i++) {
                call("at", s, i);
                call("code");
            }
        }
    }

    private int ofClass(int call, int[] a) {
        switch (CALLS[call]) {
            case "machine": return x.machine(a[0], a[1]);
            case "piece": return x.piece(a[0]);
            case "step": return x.step(a[0], a[1], a[2]);
            case "told": return x.told(a[0], a[1]);
            case "count": return x.count(a[0]);
            case "sheet": return x.sheet(a[0], a[1], a[2]);
            case "tear": return x.tear(a[0]);
            case "put": return x.put(a[0], a[1], a[2], a[3]);
            case "at": return x.at(a[0], a[1]);
            case "copy": return x.copy(a[0], a[1], a[2], a[3], a[4]);
            case "read": return x.read(a[0], a[1]);
            case "code": return x.code();
            case "swap": return x.swap(a[0], a[1]);
            case "lay": return x.lay(a[0], a[1]);
            case "end": return x.end();
            case "begin": return x.begin(a[0]);
            case "tail": return x.tail(a[0], a[1]);
            case "row": return x.row(a[0]);
            case "rule": return x.rule(a[0]);
            case "better": return x.better(a[0]);
            case "windows": return x.windows(a[0]);
            case "window": return x.window(a[0], a[1]);
            case "must": return x.must(a[0], a[1]);
            case "bound": return x.bound(a[0], a[1]);
            case "least": return x.least(a[0]);
            case "found": return x.found(a[0]);
            case "fail": return x.fail(a[0], a[1], a[2]);
            case "mended": return x.mended(a[0], a[1]);
            default: throw new IllegalArgumentException(CALLS[call]);
        }
    }

    private int ofModel(int call, int[] a) {
        switch (CALLS[call]) {
            case "machine": return y.machine(a[0], a[1]);
            case "piece": return y.piece(a[0]);
            case "step": return y.step(a[0], a[1], a[2]);
            case "told": return y.told(a[0], a[1]);
            case "count": return y.count(a[0]);
            case "sheet": return y.sheet(a[0], a[1], a[2]);
            case "tear": return y.tear(a[0]);
            case "put": return y.put(a[0], a[1], a[2], a[3]);
            case "at": return y.at(a[0], a[1]);
            case "copy": return y.copy(a[0], a[1], a[2], a[3], a[4]);
            case "read": return y.read(a[0], a[1]);
            case "code": return y.code();
            case "swap": return y.swap(a[0], a[1]);
            case "lay": return y.lay(a[0], a[1]);
            case "end": return y.end();
            case "begin": return y.begin(a[0]);
            case "tail": return y.tail(a[0], a[1]);
            case "row": return y.row(a[0]);
            case "rule": return y.rule(a[0]);
            case "better": return y.better(a[0]);
            case "windows": return y.windows(a[0]);
            case "window": return y.window(a[0], a[1]);
            case "must": return y.must(a[0], a[1]);
            case "bound": return y.bound(a[0], a[1]);
            case "least": return y.least(a[0]);
            case "found": return y.found(a[0]);
            case "fail": return y.fail(a[0], a[1], a[2]);
            case "mended": return y.mended(a[0], a[1]);
            default: throw new IllegalArgumentException(CALLS[call]);
        }
    }
}
