/** States that refusals are tried in; each with sheets of all forms, a CODE, and windows, a least day, a mended day. */
final class States {
    static final State NEW = new State("new", States::justNew);
    static final State SIMPLE = new State("simple", States::simple);
    static final State RING = new State("ring", States::ring);
    static final State UNSIMPLE = new State("unsimple", States::unsimple);
    static final State FULL = new State("full", States::full);
    static final State[] ALL = {NEW, SIMPLE, RING, UNSIMPLE, FULL};

    private States() {
    }

    /** 0: three steps, 1: an odd number, 2: a step on machine 9, 3: no places, 4: nine steps, 5: nothing; CODE 2. */
    private static void fillSheets(JoineryFloor x) {
        int[][] rows = {{0, 5, 1, 7, 0, 9}, {0, 300, 1}, {0, 5, 9, 5}, {}, {0, 1, 0, 1, 0, 1, 0, 1, 0, 1, 0, 1, 0, 1, 0,
            1, 0, 1}};
        int[] forms = {0, 1, 2, 2, 0};
        for (int s = 0; s < rows.length; s++) {
            x.sheet(s, forms[s], rows[s].length);
            for (int i = 0; i < rows[s].length; i++) if (rows[s][i] != 0) x.put(s, forms[s], i, rows[s][i]);
        }
        x.put(0, 1, 0, 1);
    }

    private static JoineryFloor justNew() {
        return new JoineryFloor();
    }

    private static JoineryFloor simple() {
        JoineryFloor x = Due.floor(new int[][] {{0, 0}, {0, 0}, {1, 0}}, new int[] {1, 2, 3}, new int[][] {
            {0, 0, 3}, {0, 1, 2}, {1, 1, 2}, {1, 0, 4}, {1, 2, 5}, {2, 0, 1}, {2, 2, 3}});
        fillSheets(x);
        x.windows(14);
        x.least(3);
        x.fail(0, 2, 3);
        x.step(2, 1, 6);
        return x;
    }

    private static JoineryFloor ring() {
        JoineryFloor x = simple();
        x.lay(3, 0);
        x.lay(2, 2);
        return x;
    }

    private static JoineryFloor unsimple() {
        JoineryFloor x = simple();
        x.machine(2, 7);
        x.machine(3, 2);
        int[][] steps = {{0, 3, 2}, {1, 3, 3}, {0, 4, 4}, {1, 4, 5}, {2, 4, 6}};
        for (int[] s : steps) x.step(s[0], s[1], s[2]);
        return x;
    }

    /** Eight machines, twelve pieces, 32 steps, eight of these of piece 0. */
    private static JoineryFloor full() {
        JoineryFloor x = new JoineryFloor();
        for (int m = 0; m < 8; m++) x.machine(m == 7 ? 1 : 0, 0);
        for (int p = 0; p < 12; p++) x.piece(p % 10);
        for (int s = 0; s < 32; s++) x.step(s < 8 ? 0 : 1 + s % 11, s * 5 % 8, 1 + s % 4);
        fillSheets(x);
        x.windows(40);
        x.least(3);
        x.fail(0, 2, 3);
        return x;
    }
}
