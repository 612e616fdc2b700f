/** Promises 28 and 29: machines that fail. */
public final class FailTest {
    public static void main(String[] args) {
        plain();
        edges();
        drying();
        setting();
        crew();
        refusals();
        latest();
        Due.finish();
    }

    /** Steps 0 and 3 on machine 0 at 0 .. 3 and 3 .. 7, steps 2 and 1 on machine 1 at 0 .. 2 and 3 .. 5. */
    private static JoineryFloor shortDay() {
        JoineryFloor x = Due.crossing();
        x.swap(1, 0);
        return x;
    }

    private static void dueMended(String what, JoineryFloor x, int[] begins, int[] stayed) {
        for (int s = 0; s < begins.length; s++) {
            Due.due(what + ": mended(" + s + ", 0)", x.mended(s, 0), begins[s]);
            Due.due(what + ": mended(" + s + ", 1)", x.mended(s, 1), stayed[s]);
        }
    }

    private static void plain() {
        JoineryFloor x = shortDay();
        Due.due("28: under way on it is done again", x.fail(0, 2, 1), 10);
        dueMended("29", x, new int[] {3, 6, 0, 6}, new int[] {0, 0, 1, 0});
        Due.due("28: under way on another stays", x.fail(1, 4, 10), 16);
        dueMended("29", x, new int[] {0, 14, 0, 3}, new int[] {1, 0, 1, 1});
        Due.due("28: the day stays", x.end(), 7);
        Due.dueBegins("28: the day stays", x, 0, 3, 0, 3);
        Due.dueOrder("28: the orders stay", x, 0, 3);
        Due.dueOrder("28: the orders stay", x, 2, 1);
        Due.due("28: of the day, not of the one mended before", x.fail(0, 2, 1), 10);
    }

    private static void edges() {
        JoineryFloor x = shortDay();
        Due.due("28: ended at t stays, begun at t does not", x.fail(0, 3, 2), 9);
        dueMended("29", x, new int[] {0, 3, 0, 5}, new int[] {1, 0, 1, 0});
        Due.due("28: from the beginning", x.fail(0, 0, 0), 7);
        dueMended("29", x, new int[] {0, 3, 0, 3}, new int[] {0, 0, 0, 0});
        Due.due("28: no span, done again", x.fail(0, 6, 0), 10);
        dueMended("29", x, new int[] {0, 3, 0, 6}, new int[] {1, 1, 1, 0});
        Due.due("28: at the end", x.fail(0, 7, 10000), 7);
        Due.due("28: far behind it", x.fail(1, 100000, 10000), 7);
        dueMended("29", x, new int[] {0, 3, 0, 3}, new int[] {1, 1, 1, 1});
        Due.due("28: a span of 10000", x.fail(1, 1, 10000), 10007);
        dueMended("29", x, new int[] {0, 10003, 10001, 10003}, new int[] {1, 0, 0, 0});
        JoineryFloor none = Due.floor(new int[][] {{0, 0}}, new int[] {0}, new int[0][]);
        Due.due("28: no steps", none.fail(0, 5, 5), 0);
    }

    private static void drying() {
        JoineryFloor x = Due.floor(new int[][] {{1, 0}}, new int[] {0, 0, 0},
            new int[][] {{0, 0, 5}, {1, 0, 2}, {1, 0, 4}, {2, 0, 3}});
        Due.due("28: drying", x.fail(0, 3, 4), 12);
        dueMended("29: drying", x, new int[] {7, 0, 7, 0}, new int[] {0, 1, 0, 1});
    }

    private static void setting() {
        JoineryFloor x = Due.floor(new int[][] {{2, 7}, {1, 0}}, new int[] {0, 1, 1},
            new int[][] {{0, 0, 3}, {1, 0, 2}, {2, 0, 2}, {0, 1, 1}});
        Due.dueBegins("28: setting", x, 0, 10, 12, 3);
        Due.due("28: the gap behind one that stays", x.fail(0, 4, 2), 14);
        dueMended("29: setting", x, new int[] {0, 10, 12, 3}, new int[] {1, 0, 0, 1});
        Due.due("28: under way", x.fail(0, 11, 3), 18);
        dueMended("29: setting", x, new int[] {0, 14, 16, 3}, new int[] {1, 0, 0, 1});
        Due.due("28: not below t on others", x.fail(1, 2, 9), 14);
        dueMended("29: setting", x, new int[] {0, 10, 12, 11}, new int[] {1, 0, 0, 0});
    }

    private static void crew() {
        JoineryFloor x = Due.floor(new int[][] {{3, 2}}, new int[] {0, 0, 0, 0},
            new int[][] {{0, 0, 10}, {1, 0, 2}, {2, 0, 5}, {3, 0, 4}});
        Due.dueBegins("28: crew", x, 0, 0, 2, 7);
        Due.due("28: crew", x.fail(0, 4, 3), 17);
        dueMended("29: one that stays between two that do not", x, new int[] {7, 0, 7, 12}, new int[] {0, 1, 0, 0});
    }

    private static void refusals() {
        JoineryFloor x = shortDay();
        Due.due("29: no fail() yet", x.mended(0, 0), Due.NONE);
        Due.due("29: no fail() yet", x.mended(0, 1), Due.NONE);
        Due.due("29: step -1", x.mended(-1, 0), Due.UNKNOWN);
        Due.due("29: UNKNOWN is ahead of OUTSIDE", x.mended(4, 2), Due.UNKNOWN);
        Due.due("29: what -1", x.mended(0, -1), Due.OUTSIDE);
        Due.due("29: what 2", x.mended(0, 2), Due.OUTSIDE);
        Due.due("28: machine -1", x.fail(-1, 0, 0), Due.UNKNOWN);
        Due.due("28: UNKNOWN is ahead of OUTSIDE", x.fail(2, -1, -1), Due.UNKNOWN);
        Due.due("28: t -1", x.fail(0, -1, 0), Due.OUTSIDE);
        Due.due("28: t 100001", x.fail(0, 100001, 0), Due.OUTSIDE);
        Due.due("28: d -1", x.fail(0, 0, -1), Due.OUTSIDE);
        Due.due("28: d 10001", x.fail(0, 0, 10001), Due.OUTSIDE);
        Due.due("29: none of these was one", x.mended(0, 0), Due.NONE);
        JoineryFloor y = Due.ring();
        Due.due("28: a ring", y.fail(0, 0, 0), Due.NOT);
        Due.due("28: OUTSIDE is ahead of NOT", y.fail(0, 0, 10001), Due.OUTSIDE);
        Due.due("29: no fail() yet", y.mended(0, 0), Due.NONE);
    }

    private static void latest() {
        JoineryFloor x = shortDay();
        x.fail(0, 2, 1);
        Due.due("28: refused", x.fail(0, -1, 0), Due.OUTSIDE);
        dueMended("29: of the one that was not refused", x, new int[] {3, 6, 0, 6}, new int[] {0, 0, 1, 0});
        x.step(0, 0, 4);
        Due.due("29: a step that came since", x.mended(4, 0), Due.NONE);
        Due.due("29: a step that came since", x.mended(4, 1), Due.NONE);
        Due.due("29: no such what of it", x.mended(4, 2), Due.OUTSIDE);
        x.lay(3, 0);
        x.lay(1, 0);
        Due.due("28: a ring", x.fail(0, 5, 5), Due.NOT);
        dueMended("29: of the one that was not refused", x, new int[] {3, 6, 0, 6}, new int[] {0, 0, 1, 0});
    }
}
