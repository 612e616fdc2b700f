/** Promises 22 to 25: windows and bounds. */
public final class WindowsTest {
    public static void main(String[] args) {
        alongPieces();
        pairs();
        sets();
        setsBurst();
        burstBehindSets();
        setTooLong();
        refusals();
        latest();
        manyTimes();
        cutAndWhole();
        boundIdle();
        boundRefusals();
        boundOfMany();
        Due.finish();
    }

    private static void alongPieces() {
        JoineryFloor x = Due.floor(new int[][] {{1, 0}}, new int[] {0, 0},
            new int[][] {{0, 0, 2}, {0, 0, 3}, {1, 0, 8}, {0, 0, 4}});
        Due.due("22: 20", x.windows(20), 1);
        Due.dueWindow("23: 20", x, 0, 0, 13, 0);
        Due.dueWindow("23: 20", x, 1, 2, 16, 0);
        Due.dueWindow("23: 20", x, 2, 0, 20, 0);
        Due.dueWindow("23: 20", x, 3, 5, 20, 0);
        Due.due("22: just so", x.windows(9), 1);
        Due.dueWindow("23: 9", x, 1, 2, 5, 0);
        Due.due("22: burst", x.windows(8), 0);
        Due.dueWindow("23: 8", x, 0, 0, 1, 0);
        Due.dueWindow("23: 8", x, 1, 2, 4, 0);
        Due.dueWindow("23: 8", x, 3, 5, 8, 0);
        Due.due("24: no pairs on a drying machine", x.must(0, 2), 0);
        Due.due("22: 0", x.windows(0), 0);
        Due.due("22: 100000", x.windows(100000), 1);
        Due.dueWindow("23: 100000", x, 3, 5, 100000, 0);
    }

    private static void pairs() {
        JoineryFloor x = Due.floor(new int[][] {{0, 0}, {1, 0}}, new int[] {0, 0},
            new int[][] {{0, 0, 5}, {0, 1, 4}, {1, 0, 3}, {1, 1, 9}});
        Due.due("22: both ways", x.windows(17), 1);
        Due.due("24: neither", x.must(0, 2), 0);
        Due.dueWindow("23: 17", x, 0, 0, 13, 0);
        Due.due("22: one way", x.windows(16), 1);
        Due.due("24: the second", x.must(0, 2), 2);
        Due.due("24: the first", x.must(2, 0), 1);
        Due.due("24: one and the same", x.must(2, 2), 0);
        Due.dueWindow("23: 16", x, 0, 3, 12, 0);
        Due.dueWindow("23: 16", x, 2, 0, 7, 1);
        Due.dueWindow("23: 16", x, 1, 8, 16, 0);
        Due.due("22: just so", x.windows(12), 1);
        Due.due("22: no way", x.windows(11), 0);
        JoineryFloor y = Due.floor(new int[][] {{0, 0}}, new int[] {0, 0}, new int[][] {{0, 0, 5}, {1, 0, 4}});
        Due.due("22: no room for both", y.windows(8), 0);
        Due.due("24: both cannot, neither is told", y.must(0, 1), 0);
        Due.due("22: room for both", y.windows(9), 1);
    }

    /** Steps 1 and 4 fill 2 to 8 of machine 0, so that step 6 goes behind both; it has span ahead of T for its last. */
    private static JoineryFloor filled(int last) {
        JoineryFloor x = Due.floor(new int[][] {{0, 0}, {1, 0}}, new int[] {0, 0, 0},
            new int[][] {{0, 1, 2}, {0, 0, 3}, {0, 1, 4}, {1, 1, 2}, {1, 0, 3}, {1, 1, 4}, {2, 0, 4}});
        if (last > 0) x.step(2, 1, last);
        return x;
    }

    private static void sets() {
        JoineryFloor x = filled(0);
        Due.due("22: sets", x.windows(12), 1);
        Due.dueWindow("23: sets", x, 1, 2, 8, 1);
        Due.dueWindow("23: sets", x, 4, 2, 8, 1);
        Due.dueWindow("23: sets", x, 6, 8, 12, 0);
        Due.due("24: sets", x.must(1, 6), 1);
        Due.due("24: sets", x.must(6, 1), 2);
        Due.due("24: sets", x.must(4, 6), 1);
        Due.due("24: sets", x.must(1, 4), 0);
    }

    private static void setsBurst() {
        JoineryFloor x = filled(1);
        Due.due("22: no place for step 6", x.windows(12), 0);
        Due.dueWindow("23: both moved, as they were at its end", x, 6, 8, 2, 0);
        Due.dueWindow("23: its piece is not gone along once more", x, 7, 4, 12, 0);
        Due.due("24: it ends ahead of the next pairs", x.must(1, 6), 0);
    }

    /** Step 2 comes to be too narrow by the last set of all, so that it is asked only behind (d). */
    private static void burstBehindSets() {
        JoineryFloor x = Due.floor(new int[][] {{0, 0}, {1, 0}}, new int[] {0, 0, 0},
            new int[][] {{0, 1, 7}, {0, 0, 3}, {1, 0, 11}, {1, 1, 1}, {2, 1, 6}, {2, 0, 1}, {2, 1, 9}});
        Due.due("22: behind the sets", x.windows(20), 0);
        Due.dueWindow("23: too narrow", x, 2, 7, 10, 1);
        Due.dueWindow("23: the one behind it is not moved any more", x, 3, 11, 20, 0);
        Due.dueWindow("23: others", x, 1, 7, 20, 0);
        Due.dueWindow("23: others", x, 5, 6, 11, 1);
    }

    private static void setTooLong() {
        // of three no pair is too long for T, but all three are
        JoineryFloor x = Due.floor(new int[][] {{0, 0}}, new int[] {0, 0, 0},
            new int[][] {{0, 0, 4}, {1, 0, 4}, {2, 0, 4}});
        Due.due("22: three in 11", x.windows(11), 0);
        Due.dueWindow("23: three in 11", x, 2, 0, 11, 0);
        Due.due("22: three in 12", x.windows(12), 1);
        Due.dueWindow("23: three in 12", x, 2, 0, 12, 0);
    }

    private static void refusals() {
        JoineryFloor x = Due.unsimple();
        Due.due("22: no simple floor", x.windows(5), Due.NOT);
        Due.due("22: OUTSIDE is ahead of NOT", x.windows(100001), Due.OUTSIDE);
        Due.due("22: -1", x.windows(-1), Due.OUTSIDE);
        Due.due("23: ahead of any", x.window(0, 0), Due.NONE);
        Due.due("23: ahead of any", x.window(0, 1), Due.NONE);
        Due.due("23: ahead of any", x.window(0, 2), Due.NONE);
        Due.due("23: step -1", x.window(-1, 0), Due.UNKNOWN);
        Due.due("23: UNKNOWN is ahead of OUTSIDE", x.window(4, 3), Due.UNKNOWN);
        Due.due("23: what -1", x.window(0, -1), Due.OUTSIDE);
        Due.due("23: what 3", x.window(0, 3), Due.OUTSIDE);
        Due.due("24: ahead of any", x.must(0, 3), 0);
        Due.due("24: step -1", x.must(-1, 0), Due.UNKNOWN);
        Due.due("24: step 4", x.must(4, 0), Due.UNKNOWN);
        Due.due("24: other -1", x.must(0, -1), Due.UNKNOWN);
        Due.due("24: other 4", x.must(0, 4), Due.UNKNOWN);
        Due.due("22: a ring does not matter", Due.ring().windows(11), 1);
    }

    private static void latest() {
        JoineryFloor x = filled(0);
        x.windows(12);
        Due.due("22: refused", x.windows(-1), Due.OUTSIDE);
        Due.dueWindow("23: of the one that was not refused", x, 6, 8, 12, 0);
        x.step(2, 0, 9);
        Due.due("23: a step that came since", x.window(7, 0), Due.NONE);
        Due.due("23: a step that came since", x.window(7, 2), Due.NONE);
        Due.due("23: no such what of it", x.window(7, 3), Due.OUTSIDE);
        Due.due("24: a step that came since", x.must(7, 1), 0);
        Due.due("24: a step that came since", x.must(1, 7), 0);
        x.machine(3, 2);
        x.step(2, 2, 1);
        Due.due("22: no simple floor now", x.windows(50), Due.NOT);
        Due.dueWindow("23: still there", x, 1, 2, 8, 1);
        Due.due("24: still there", x.must(1, 6), 1);
        JoineryFloor y = filled(0);
        y.windows(12);
        y.least(10);
        Due.dueWindow("23: least() is another", y, 6, 8, 12, 0);
        y.windows(100);
        Due.dueWindow("23: nothing is told ahead from before", y, 1, 2, 96, 0);
        Due.due("24: nothing is told ahead from before", y.must(1, 6), 0);
    }

    /** Many times for one floor of thirty steps: from burst at once, over many rounds, to wide open. */
    private static void manyTimes() {
        Pair pair = new Pair();
        for (int m = 0; m < 3; m++) pair.call("machine", 0, 0);
        for (int p = 0; p < 6; p++) pair.call("piece", 0);
        for (int p = 0; p < 6; p++) {
            for (int k = 0; k < 5; k++) pair.call("step", p, (p * 2 + k * (p + 1)) % 3, 1 + (p * 5 + k * 3) % 7);
        }
        for (int t = 30; t < 110; t++) {
            pair.call("windows", t);
            for (int s = 0; s < 30; s++) for (int what = 0; what < 3; what++) pair.call("window", s, what);
        }
        Due.due("22: as the model has it", pair.wrong, 0);
    }

    private static void cutAndWhole() {
        JoineryFloor x = Due.floor(new int[][] {{0, 0}, {1, 0}}, new int[] {0, 0},
            new int[][] {{0, 0, 5}, {0, 1, 4}, {1, 1, 2}, {1, 0, 2}, {1, 1, 6}});
        Due.due("25: CUT", x.bound(0, 0), 11);
        Due.due("25: WHOLE", x.bound(0, 1), 13);
        JoineryFloor y = Due.floor(new int[][] {{0, 0}, {1, 0}}, new int[] {0, 0},
            new int[][] {{0, 0, 5}, {0, 1, 1}, {1, 1, 2}, {1, 0, 2}, {1, 1, 6}});
        Due.due("25: CUT", y.bound(0, 0), 10);
        Due.due("25: WHOLE", y.bound(0, 1), 10);
        y.swap(0, 0);
        Due.due("25: whatever the order", y.bound(0, 1), 10);
    }

    private static void boundIdle() {
        JoineryFloor x = Due.floor(new int[][] {{0, 0}, {1, 0}, {0, 0}}, new int[] {0, 0},
            new int[][] {{0, 1, 10}, {0, 0, 5}, {1, 1, 30}, {1, 0, 4}, {1, 1, 7}});
        Due.due("25: CUT with pauses", x.bound(0, 0), 41);
        Due.due("25: WHOLE with pauses", x.bound(0, 1), 41);
        Due.due("25: no steps, CUT", x.bound(2, 0), 0);
        Due.due("25: no steps, WHOLE", x.bound(2, 1), 0);
    }

    private static void boundRefusals() {
        JoineryFloor x = Due.unsimple();
        x.machine(1, 0);
        Due.due("25: machine -1", x.bound(-1, 0), Due.UNKNOWN);
        Due.due("25: UNKNOWN is ahead of OUTSIDE", x.bound(4, 2), Due.UNKNOWN);
        Due.due("25: what -1", x.bound(0, -1), Due.OUTSIDE);
        Due.due("25: OUTSIDE is ahead of NOT", x.bound(1, 2), Due.OUTSIDE);
        for (int m = 1; m < 4; m++) {
            Due.due("25: another kind", x.bound(m, 0), Due.NOT);
            Due.due("25: another kind", x.bound(m, 1), Due.NOT);
        }
        Due.due("25: a plain machine of no simple floor", x.bound(0, 0), 7);
    }

    private static void boundOfMany() {
        JoineryFloor x = Due.floor(new int[][] {{0, 0}}, new int[] {0, 0, 0}, new int[0][]);
        for (int s = 0; s < 8; s++) x.step(s % 3, 0, 1000);
        Due.due("25: WHOLE of eight", x.bound(0, 1), 8000);
        x.step(0, 0, 1000);
        Due.due("25: WHOLE of nine", x.bound(0, 1), Due.NOT);
        Due.due("25: CUT of nine", x.bound(0, 0), 9000);
        // CUT works on the first piece while the third is awaited; uncut, the machine stands still for 1
        JoineryFloor y = Due.floor(new int[][] {{0, 0}, {1, 0}}, new int[] {0, 0, 0, 0},
            new int[][] {{0, 0, 4}, {0, 1, 2}, {1, 0, 3}, {1, 1, 9}, {2, 1, 4}, {2, 0, 2}, {2, 1, 8}, {3, 1, 1},
                {3, 0, 6}});
        Due.due("25: CUT of four", y.bound(0, 0), 15);
        Due.due("25: WHOLE of four", y.bound(0, 1), 16);
    }
}
