/** Terms: REFUSALS, of several the first; what is refused changes nothing. Section 2: nor does what has a CODE. */
public final class RefusalsTest {
    private static final int LOWEST = Integer.MIN_VALUE, HIGHEST = Integer.MAX_VALUE;

    public static void main(String[] args) {
        states();
        for (State state : States.ALL) {
            unknown(state);
            unknownIsFirst(state);
            outside(state);
            outsideOfMachines(state);
            outsideOfSteps(state);
        }
        notInRing();
        notOnUnsimpleFloors();
        notOnKinds();
        notWithoutSteps();
        notByRead();
        outsideIsAheadOfNot();
        full();
        fullIsLast();
        codes();
        codesOfCopy();
        refusalsAreAheadOfCodes();
        swapThatWouldMakeRing();
        Due.finish();
    }

    /** What the rest relies on. */
    private static void states() {
        Due.due("simple: a day", States.SIMPLE.make().end() > 0 ? 1 : 0, 1);
        Due.due("simple", States.SIMPLE.make().count(3), 1);
        Due.due("ring: no day", States.RING.make().end(), Due.NONE);
        Due.due("ring: simple", States.RING.make().count(3), 1);
        Due.due("unsimple: a day", States.UNSIMPLE.make().end() > 0 ? 1 : 0, 1);
        Due.due("unsimple", States.UNSIMPLE.make().count(3), 0);
        Due.due("full: machines", States.FULL.machines, 8);
        Due.due("full: pieces", States.FULL.pieces, 12);
        Due.due("full: steps", States.FULL.steps, 32);
        Due.due("full: a day", States.FULL.make().end() > 0 ? 1 : 0, 1);
        Due.due("full: which of its piece step 7 is", States.FULL.make().told(7, 3), 7);
        for (State state : States.ALL) Due.due(state.name + ": CODE", state.make().code(), state == States.NEW ? 0 : 2);
    }

    private static void unknown(State state) {
        for (int piece : new int[] {-1, state.pieces, LOWEST, HIGHEST}) {
            state.dueRefused(Due.UNKNOWN, "step", piece, 0, 1);
        }
        for (int machine : new int[] {-1, state.machines, LOWEST, HIGHEST}) {
            state.dueRefused(Due.UNKNOWN, "step", 0, machine, 1);
            state.dueRefused(Due.UNKNOWN, "swap", machine, 0);
            state.dueRefused(Due.UNKNOWN, "bound", machine, 0);
            state.dueRefused(Due.UNKNOWN, "fail", machine, 0, 0);
        }
        for (int step : new int[] {-1, state.steps, LOWEST, HIGHEST}) {
            state.dueRefused(Due.UNKNOWN, "told", step, 0);
            state.dueRefused(Due.UNKNOWN, "lay", step, 0);
            state.dueRefused(Due.UNKNOWN, "begin", step);
            state.dueRefused(Due.UNKNOWN, "tail", step, 0);
            state.dueRefused(Due.UNKNOWN, "window", step, 0);
            state.dueRefused(Due.UNKNOWN, "must", step, 0);
            state.dueRefused(Due.UNKNOWN, "must", 0, step);
            state.dueRefused(Due.UNKNOWN, "mended", step, 0);
        }
        for (int sheet : new int[] {-1, 6, LOWEST, HIGHEST}) {
            state.dueRefused(Due.UNKNOWN, "sheet", sheet, 0, 1);
            state.dueRefused(Due.UNKNOWN, "tear", sheet);
            state.dueRefused(Due.UNKNOWN, "put", sheet, 0, 0, 1);
            state.dueRefused(Due.UNKNOWN, "at", sheet, 0);
            state.dueRefused(Due.UNKNOWN, "copy", sheet, 0, 0, 0, 1);
            state.dueRefused(Due.UNKNOWN, "copy", 0, 0, sheet, 0, 1);
            state.dueRefused(Due.UNKNOWN, "read", sheet, 0);
        }
    }

    /** With other numbers out of their bounds too, and whatever else would refuse it there. */
    private static void unknownIsFirst(State state) {
        state.dueRefused(Due.UNKNOWN, "step", state.pieces, 0, 0);
        state.dueRefused(Due.UNKNOWN, "step", 0, state.machines, 1001);
        state.dueRefused(Due.UNKNOWN, "told", state.steps, 5);
        state.dueRefused(Due.UNKNOWN, "sheet", 6, 3, 41);
        state.dueRefused(Due.UNKNOWN, "sheet", 6, 0, -1);
        state.dueRefused(Due.UNKNOWN, "put", 6, 3, -1, 0);
        state.dueRefused(Due.UNKNOWN, "at", 6, -1);
        state.dueRefused(Due.UNKNOWN, "copy", 5, -1, 6, -1, -1);
        state.dueRefused(Due.UNKNOWN, "copy", 6, -1, 5, -1, -1);
        state.dueRefused(Due.UNKNOWN, "read", 6, 10);
        state.dueRefused(Due.UNKNOWN, "swap", state.machines, -1);
        state.dueRefused(Due.UNKNOWN, "lay", state.steps, -1);
        state.dueRefused(Due.UNKNOWN, "tail", state.steps, 2);
        state.dueRefused(Due.UNKNOWN, "window", state.steps, 3);
        state.dueRefused(Due.UNKNOWN, "bound", state.machines, 2);
        state.dueRefused(Due.UNKNOWN, "fail", state.machines, -1, -1);
        state.dueRefused(Due.UNKNOWN, "mended", state.steps, 2);
    }

    private static void outside(State state) {
        int[][] bounds = {{0, 3}, {0, 9}, {0, 4}, {0, 2}, {0, 50}, {0, 100000}, {0, 100}, {0, 2}};
        String[] calls = {"machine", "piece", "count", "rule", "better", "windows", "least", "found"};
        for (int k = 0; k < calls.length; k++) {
            for (int out : new int[] {bounds[k][0] - 1, bounds[k][1] + 1, LOWEST, HIGHEST}) {
                if (k == 0) state.dueRefused(Due.OUTSIDE, "machine", out, 1);
                else state.dueRefused(Due.OUTSIDE, calls[k], out);
            }
        }
        for (int gap : new int[] {-1, 101, LOWEST, HIGHEST}) state.dueRefused(Due.OUTSIDE, "machine", 2, gap);
        for (int hands : new int[] {0, 5, LOWEST, HIGHEST}) state.dueRefused(Due.OUTSIDE, "machine", 3, hands);
        for (int form : new int[] {-1, 3, LOWEST, HIGHEST}) {
            state.dueRefused(Due.OUTSIDE, "sheet", 0, form, 1);
            state.dueRefused(Due.OUTSIDE, "put", 0, form, 0, 1);
        }
        for (int places : new int[] {41, HIGHEST}) state.dueRefused(Due.OUTSIDE, "sheet", 0, 0, places);
        for (int sort : new int[] {-1, 10, LOWEST, HIGHEST}) state.dueRefused(Due.OUTSIDE, "read", 0, sort);
    }

    private static void outsideOfMachines(State state) {
        if (state.machines == 0) return;
        for (int span : new int[] {0, 1001, -1, LOWEST, HIGHEST}) state.dueRefused(Due.OUTSIDE, "step", 0, 0, span);
        for (int t : new int[] {-1, 100001, LOWEST, HIGHEST}) state.dueRefused(Due.OUTSIDE, "fail", 0, t, 0);
        for (int d : new int[] {-1, 10001, LOWEST, HIGHEST}) state.dueRefused(Due.OUTSIDE, "fail", 0, 0, d);
        for (int what : new int[] {-1, 2, LOWEST, HIGHEST}) state.dueRefused(Due.OUTSIDE, "bound", 0, what);
        for (int m = 0; m < state.machines; m++) {
            int size = sizeOf(state, m);
            for (int i : new int[] {-1, size - 1, LOWEST, HIGHEST}) state.dueRefused(Due.OUTSIDE, "swap", m, i);
        }
    }

    private static int sizeOf(State state, int m) {
        JoineryFloor x = state.make();
        int size = 0;
        for (int s = 0; s < state.steps; s++) if (x.told(s, 1) == m) size++;
        return size;
    }

    private static void outsideOfSteps(State state) {
        if (state.steps == 0) return;
        int size = sizeOf(state, state.make().told(0, 1));
        for (int i : new int[] {-1, size, LOWEST, HIGHEST}) state.dueRefused(Due.OUTSIDE, "lay", 0, i);
        for (int what : new int[] {-1, 5, LOWEST, HIGHEST}) state.dueRefused(Due.OUTSIDE, "told", 0, what);
        for (int what : new int[] {-1, 2, LOWEST, HIGHEST}) state.dueRefused(Due.OUTSIDE, "tail", 0, what);
        for (int what : new int[] {-1, 3, LOWEST, HIGHEST}) state.dueRefused(Due.OUTSIDE, "window", 0, what);
        for (int what : new int[] {-1, 2, LOWEST, HIGHEST}) state.dueRefused(Due.OUTSIDE, "mended", 0, what);
        // also of a step that came since windows() and fail()
        state.dueRefused(Due.OUTSIDE, "window", state.steps - 1, 3);
        state.dueRefused(Due.OUTSIDE, "mended", state.steps - 1, 2);
    }

    private static void notInRing() {
        State ring = States.RING;
        for (int s = 0; s < ring.steps; s++) {
            ring.dueRefused(Due.NOT, "begin", s);
            for (int what = 0; what < 2; what++) ring.dueRefused(Due.NOT, "tail", s, what);
        }
        for (int i : new int[] {0, 1, -1, HIGHEST}) ring.dueRefused(Due.NOT, "row", i);
        for (int n : new int[] {0, 1, 50}) ring.dueRefused(Due.NOT, "better", n);
        for (int m = 0; m < ring.machines; m++) ring.dueRefused(Due.NOT, "fail", m, 3, 4);
        ring.dueRefused(Due.NONE, "end");
    }

    private static void notOnUnsimpleFloors() {
        State floor = States.UNSIMPLE;
        for (int s = 0; s < floor.steps; s++) {
            for (int what = 0; what < 2; what++) floor.dueRefused(Due.NOT, "tail", s, what);
        }
        for (int i : new int[] {0, 1, -1, HIGHEST}) floor.dueRefused(Due.NOT, "row", i);
        for (int n : new int[] {0, 1, 50}) floor.dueRefused(Due.NOT, "better", n);
        for (int t : new int[] {0, 30, 100000}) floor.dueRefused(Due.NOT, "windows", t);
        for (int n : new int[] {0, 1, 100}) floor.dueRefused(Due.NOT, "least", n);
    }

    private static void notOnKinds() {
        for (State state : new State[] {States.SIMPLE, States.RING, States.UNSIMPLE}) {
            state.dueRefused(Due.NOT, "swap", 2, 0);
            for (int what = 0; what < 2; what++) state.dueRefused(Due.NOT, "bound", 2, what);
        }
        for (int m : new int[] {3, 4}) {
            for (int what = 0; what < 2; what++) States.UNSIMPLE.dueRefused(Due.NOT, "bound", m, what);
        }
        State nine = new State("nine steps", () -> Due.floor(new int[][] {{0, 0}}, new int[] {0, 0}, new int[][] {
            {0, 0, 1}, {0, 0, 2}, {0, 0, 3}, {0, 0, 4}, {1, 0, 5}, {1, 0, 6}, {1, 0, 7}, {1, 0, 8}, {1, 0, 9}}));
        nine.dueRefused(Due.NOT, "bound", 0, 1);
    }

    private static void notWithoutSteps() {
        State bare = new State("no steps", () -> Due.floor(new int[][] {{0, 0}}, new int[] {0}, new int[0][]));
        for (State state : new State[] {States.NEW, bare}) {
            for (int n : new int[] {0, 1, 100}) state.dueRefused(Due.NOT, "least", n);
        }
    }

    /** Sheet 2 has a machine 9; the others have numbers that are wrong by one. */
    private static void notByRead() {
        for (State state : States.ALL) if (state != States.NEW) state.dueRefused(Due.NOT, "read", 2, 0);
        int[][] rows = {{0, 0}, {0, 1001}, {0, -1}, {1, 5}, {-1, 5}, {0, 5, 1, 5}, {0, 5, 0, 0}, {HIGHEST, 5},
            {LOWEST, 5}, {0, HIGHEST}, {0, LOWEST}};
        for (int[] row : rows) {
            State state = new State("a sheet of " + row[0] + ", " + row[1], () -> {
                JoineryFloor x = Due.floor(new int[][] {{0, 0}}, new int[] {0}, new int[][] {{0, 0, 4}});
                x.sheet(0, 2, row.length);
                for (int i = 0; i < row.length; i++) x.put(0, 2, i, row[i]);
                x.at(0, 40);
                return x;
            });
            state.dueRefused(Due.NOT, "read", 0, 0);
        }
    }

    private static void outsideIsAheadOfNot() {
        for (State state : new State[] {States.RING, States.UNSIMPLE}) {
            state.dueRefused(Due.OUTSIDE, "tail", 0, 2);
            state.dueRefused(Due.OUTSIDE, "better", 51);
            state.dueRefused(Due.OUTSIDE, "swap", 2, -1);
            state.dueRefused(Due.OUTSIDE, "bound", 2, 2);
        }
        States.RING.dueRefused(Due.OUTSIDE, "fail", 0, -1, 0);
        States.UNSIMPLE.dueRefused(Due.OUTSIDE, "windows", 100001);
        States.UNSIMPLE.dueRefused(Due.OUTSIDE, "least", 101);
        States.NEW.dueRefused(Due.OUTSIDE, "least", 101);
        States.SIMPLE.dueRefused(Due.OUTSIDE, "read", 2, 10);
    }

    private static void full() {
        State floor = States.FULL;
        for (int kind = 0; kind < 4; kind++) floor.dueRefused(Due.FULL, "machine", kind, 1);
        for (int sort : new int[] {0, 9}) floor.dueRefused(Due.FULL, "piece", sort);
        for (int p = 0; p < 12; p++) floor.dueRefused(Due.FULL, "step", p, 0, 1);
        floor.dueRefused(Due.FULL, "read", 0, 0);
        floor.dueRefused(Due.FULL, "read", 3, 0);
        floor.dueRefused(Due.FULL, "read", 4, 0);
        // nine steps are too many for any piece, whatever room there is
        for (State state : new State[] {States.SIMPLE, States.RING, States.UNSIMPLE}) {
            state.dueRefused(Due.FULL, "read", 4, 0);
        }
    }

    private static void fullIsLast() {
        State floor = States.FULL;
        floor.dueRefused(Due.OUTSIDE, "machine", 4, 0);
        floor.dueRefused(Due.OUTSIDE, "machine", 3, 5);
        floor.dueRefused(Due.OUTSIDE, "piece", 10);
        floor.dueRefused(Due.OUTSIDE, "step", 0, 0, 1001);
        floor.dueRefused(Due.UNKNOWN, "step", 12, 0, 1);
        floor.dueRefused(Due.OUTSIDE, "read", 0, 10);
        floor.dueRefused(Due.NOT, "read", 2, 0);
    }

    private static void codes() {
        for (State state : States.ALL) {
            if (state == States.NEW) continue;
            for (int s = 0; s < 5; s++) state.dueCoded(4, "sheet", s, 0, -1);
            state.dueCoded(4, "sheet", 5, 2, LOWEST);
            state.dueCoded(1, "put", 5, 0, 0, 1);
            state.dueCoded(1, "put", 5, 2, -1, 1);
            state.dueCoded(2, "put", 0, 1, 0, 1);
            state.dueCoded(2, "put", 0, 2, 6, 1);
            state.dueCoded(2, "put", 1, 0, 0, 1);
            state.dueCoded(2, "put", 2, 1, 0, 1);
            for (int i : new int[] {-1, 6, LOWEST, HIGHEST}) {
                state.dueCoded(3, "put", 0, 0, i, 1);
                state.dueCoded(3, "at", 0, i);
                state.dueCoded(1, "at", 5, i);
            }
            state.dueCoded(3, "put", 3, 2, 0, 1);
            state.dueCoded(3, "at", 3, 0);
            state.dueCoded(1, "read", 5, 0);
            state.dueCoded(3, "read", 1, 0);
        }
    }

    private static void codesOfCopy() {
        State state = States.SIMPLE;
        state.dueCoded(1, "copy", 5, 0, 5, 0, 0);
        state.dueCoded(1, "copy", 5, 0, 0, 0, 1);
        state.dueCoded(1, "copy", 0, -1, 5, 0, 1);
        state.dueCoded(2, "copy", 0, 0, 1, 0, 1);
        state.dueCoded(2, "copy", 1, -1, 2, 0, 99);
        int[][] wrong = {{-1, 0, 1}, {0, -1, 1}, {0, 0, -1}, {0, 0, 7}, {1, 0, 6}, {3, 0, 4}, {6, 0, 1}, {7, 0, 0},
            {HIGHEST, 0, 1}, {1, 0, HIGHEST}, {LOWEST, 0, 0}, {0, LOWEST, 0}, {0, 0, LOWEST}};
        for (int[] w : wrong) {
            state.dueCoded(3, "copy", 0, w[0], 4, w[1], w[2]);
            state.dueCoded(3, "copy", 0, w[0], 0, w[1], w[2]);
        }
        // sheet 4 has 18 places: as many as are asked for, but not from there on
        for (int[] w : new int[][] {{0, 18, 1}, {0, 13, 6}, {0, 19, 0}, {0, HIGHEST, 1}}) {
            state.dueCoded(3, "copy", 0, w[0], 4, w[1], w[2]);
        }
        state.dueCoded(3, "copy", 4, 12, 0, 0, 7);
        state.dueCoded(3, "copy", 4, 0, 0, 1, 6);
    }

    /** CODE is 2 in these states, and stays so; the questions of a state begin with it. */
    private static void refusalsAreAheadOfCodes() {
        State state = States.SIMPLE;
        state.dueRefused(Due.OUTSIDE, "sheet", 0, 3, -1);
        state.dueRefused(Due.OUTSIDE, "put", 5, 3, -1, 0);
        state.dueRefused(Due.OUTSIDE, "put", 0, 3, -1, 0);
        state.dueRefused(Due.OUTSIDE, "read", 5, 10);
        state.dueRefused(Due.OUTSIDE, "read", 1, 10);
        // read alone has REFUSALS behind its CODES
        States.FULL.dueCoded(1, "read", 5, 0);
        States.FULL.dueCoded(3, "read", 1, 0);
    }

    private static void swapThatWouldMakeRing() {
        State state = new State("crossing", Due::crossing);
        state.dueRefused(0, "swap", 0, 0);
        State one = new State("one piece", () -> Due.floor(new int[][] {{3, 2}, {2, 5}}, new int[] {0},
            new int[][] {{0, 0, 5}, {0, 0, 6}, {0, 1, 7}, {0, 1, 8}}));
        one.dueRefused(0, "swap", 0, 0);
        one.dueRefused(0, "swap", 1, 0);
    }
}
