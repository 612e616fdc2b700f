/** Counts the answers that are not as due, and makes floors for tests. */
final class Due {
    static final int NONE = -1, UNKNOWN = -100001, OUTSIDE = -100002, NOT = -100003, FULL = -100004;
    static final int LOWEST = Integer.MIN_VALUE, HIGHEST = Integer.MAX_VALUE;
    private static int asked = 0;
    private static int wrong = 0;

    static void due(String call, long got, long want) {
        asked++;
        if (got != want) {
            wrong++;
            System.out.println(call + " answered " + got + ", due is " + want);
        }
    }

    static void finish() {
        System.out.println(asked + " answers, " + wrong + " not as due");
        if (wrong > 0 || asked == 0) System.exit(1);
    }

    /** machines: kind, with; sorts: one a piece; steps: piece, machine, span. */
    static JoineryFloor floor(int[][] machines, int[] sorts, int[][] steps) {
        JoineryFloor x = new JoineryFloor();
        for (int k = 0; k < machines.length; k++) due("machine", x.machine(machines[k][0], machines[k][1]), k);
        for (int k = 0; k < sorts.length; k++) due("piece", x.piece(sorts[k]), k);
        for (int k = 0; k < steps.length; k++) due("step", x.step(steps[k][0], steps[k][1], steps[k][2]), k);
        return x;
    }

    /** Two pieces over two PLAIN machines, crosswise: by the orders as they come a day of 11, at best one of 7. */
    static JoineryFloor crossing() {
        return floor(new int[][] {{0, 0}, {0, 0}}, new int[] {0, 0},
            new int[][] {{0, 0, 3}, {0, 1, 2}, {1, 1, 2}, {1, 0, 4}});
    }

    /** The same with a ring: the second piece goes ahead on machine 0, the first on machine 1. */
    static JoineryFloor ring() {
        JoineryFloor x = crossing();
        due("lay(3, 0)", x.lay(3, 0), 0);
        return x;
    }

    /** A floor that is not SIMPLE: a PLAIN, a SETTING and a CREW machine. */
    static JoineryFloor unsimple() {
        return floor(new int[][] {{0, 0}, {2, 7}, {3, 2}}, new int[] {0, 1},
            new int[][] {{0, 0, 3}, {0, 1, 2}, {1, 2, 2}, {1, 0, 4}});
    }

    static void dueBegins(String what, JoineryFloor x, int... begins) {
        for (int s = 0; s < begins.length; s++) due(what + ": begin(" + s + ")", x.begin(s), begins[s]);
    }

    /** The order of a machine, as its steps' places tell it. */
    static void dueOrder(String what, JoineryFloor x, int... steps) {
        for (int i = 0; i < steps.length; i++) due(what + ": place of " + steps[i], x.told(steps[i], 4), i);
    }

    static void dueWindow(String what, JoineryFloor x, int step, int head, int dead, int pairs) {
        due(what + ": HEAD of " + step, x.window(step, 0), head);
        due(what + ": DEAD of " + step, x.window(step, 1), dead);
        due(what + ": pairs of " + step, x.window(step, 2), pairs);
    }

    static void dueFound(String what, JoineryFloor x, int best, int cases, int finds) {
        due(what + ": BEST", x.found(0), best);
        due(what + ": CASES", x.found(1), cases);
        due(what + ": how often ORDERS were found", x.found(2), finds);
    }
}
