/** The boundary cases of section 6, and of the promises 28 and 29 on machines that fail. */
public final class FailEdgesTest {
    public static void main(String[] args) {
        momentsOnThisMachine();
        momentsOnAnotherMachine();
        noSpan();
        timesAndSpans();
        withoutSteps();
        machineWithoutSteps();
        doneAgainPushesOthers();
        stepsBehindOneThatStays();
        gapBehindOneThatStays();
        handsOfThoseThatStay();
        crewFails();
        dryingFails();
        ringIsNot();
        noFailYet();
        cameSince();
        latestNotRefused();
        dayStays();
        Due.finish();
    }

    /** Step 0 dries from 0 to 3; step 1 has machine 0 from 3 to 7; machine 2 is another one, without steps. */
    private static JoineryFloor twoSteps() {
        return Due.floor(new int[][] {{0, 0}, {1, 0}, {0, 0}}, new int[] {0}, new int[][] {{0, 1, 3}, {0, 0, 4}});
    }

    private static void dueMended(String what, JoineryFloor x, int step, int begin, int stayed) {
        Due.due(what + ": BEGIN of " + step, x.mended(step, 0), begin);
        Due.due(what + ": whether " + step + " stayed", x.mended(step, 1), stayed);
    }

    private static void momentsOnThisMachine() {
        int[] begins = {3, 3, 4, 5, 6, 7, 8, 3, 3};
        for (int t = 0; t < 9; t++) {
            JoineryFloor x = twoSteps();
            String what = "28: t " + t + ", d 2";
            Due.due(what, x.fail(0, t, 2), begins[t] + 4);
            dueMended(what, x, 0, 0, t == 0 ? 0 : 1);
            dueMended(what, x, 1, begins[t], t < 7 ? 0 : 1);
        }
    }

    /** Under way at t, it stays; from its BEGIN at t on it does not, but BEGINS where it did. */
    private static void momentsOnAnotherMachine() {
        for (int t = 0; t < 9; t++) {
            JoineryFloor x = twoSteps();
            String what = "28: another machine, t " + t;
            Due.due(what, x.fail(2, t, 2), 7);
            dueMended(what, x, 0, 0, t == 0 ? 0 : 1);
            dueMended(what, x, 1, 3, t < 4 ? 0 : 1);
        }
    }

    private static void noSpan() {
        int[] ends = {7, 7, 7, 7, 8, 9, 10, 7};
        for (int t = 0; t < 8; t++) Due.due("28: d 0, t " + t, twoSteps().fail(0, t, 0), ends[t]);
    }

    private static void timesAndSpans() {
        for (int t : new int[] {Due.LOWEST, -1, 0, 1, 99999, 100000, 100001, Due.HIGHEST}) {
            boolean good = t >= 0 && t <= 100000;
            JoineryFloor x = twoSteps();
            Due.due("28: t " + t, x.fail(0, t, 0), good ? 7 : Due.OUTSIDE);
            Due.due("29: t " + t, x.mended(1, 0), good ? 3 : Due.NONE);
        }
        for (int d : new int[] {Due.LOWEST, -1, 0, 1, 9999, 10000, 10001, Due.HIGHEST}) {
            boolean good = d >= 0 && d <= 10000;
            JoineryFloor x = twoSteps();
            Due.due("28: d " + d, x.fail(0, 6, d), good ? 10 + d : Due.OUTSIDE);
            Due.due("29: d " + d, x.mended(1, 0), good ? 6 + d : Due.NONE);
        }
    }

    private static void withoutSteps() {
        JoineryFloor x = Due.floor(new int[][] {{0, 0}}, new int[] {0}, new int[0][]);
        Due.due("28: no steps", x.fail(0, 100000, 10000), 0);
        x.step(0, 0, 4);
        Due.due("29: it came since", x.mended(0, 0), Due.NONE);
        Due.due("29: it came since", x.mended(0, 1), Due.NONE);
    }

    /** Not below t counts for all machines; below t + d for the one that fails alone. */
    private static void machineWithoutSteps() {
        JoineryFloor x = twoSteps();
        Due.due("28: t 0, d 10000", x.fail(2, 0, 10000), 7);
        dueMended("28: t 0", x, 0, 0, 0);
        dueMended("28: t 0", x, 1, 3, 0);
    }

    /** Steps 0, 1, 2 follow one another on machine 0; step 3 dries behind step 0. */
    private static void doneAgainPushesOthers() {
        JoineryFloor x = Due.floor(new int[][] {{0, 0}, {1, 0}}, new int[] {0, 0, 0},
            new int[][] {{0, 0, 5}, {1, 0, 4}, {2, 0, 3}, {0, 1, 6}});
        Due.due("28: the first under way", x.fail(0, 4, 3), 19);
        int[] begins = {7, 12, 16, 12};
        for (int s = 0; s < 4; s++) dueMended("28: the first under way", x, s, begins[s], 0);
        Due.due("28: the second under way", x.fail(0, 8, 3), 18);
        dueMended("28: the second under way", x, 0, 0, 1);
        dueMended("28: the second under way", x, 1, 11, 0);
        dueMended("28: the second under way", x, 2, 15, 0);
        dueMended("28: drying goes on", x, 3, 5, 1);
        Due.due("28: drying fails", x.fail(1, 8, 3), 17);
        dueMended("28: drying is done again", x, 3, 11, 0);
        dueMended("28: under way on another", x, 1, 5, 1);
        dueMended("28: not yet begun", x, 2, 9, 0);
    }

    /** Step 1 goes on to 9 on machine 1, so that step 2, which follows it there, waits as it did. */
    private static void stepsBehindOneThatStays() {
        JoineryFloor x = Due.floor(new int[][] {{0, 0}, {0, 0}}, new int[] {0, 0, 0},
            new int[][] {{0, 0, 2}, {1, 1, 9}, {2, 1, 1}, {0, 1, 1}});
        Due.due("28: behind one that stays", x.fail(0, 1, 4), 11);
        dueMended("28: behind one that stays", x, 0, 5, 0);
        dueMended("28: behind one that stays", x, 1, 0, 1);
        dueMended("28: behind one that stays", x, 2, 9, 0);
        dueMended("28: behind one that stays", x, 3, 10, 0);
    }

    /** The GAP runs from the end of one that stays: it is over at 13, whatever t and d below it are. */
    private static void gapBehindOneThatStays() {
        for (int d = 0; d < 9; d++) {
            JoineryFloor x = Due.floor(new int[][] {{2, 10}}, new int[] {0, 1}, new int[][] {{0, 0, 3}, {1, 0, 2}});
            Due.due("28: GAP, d " + d, x.fail(0, 7, d), Math.max(13, 7 + d) + 2);
            dueMended("28: GAP, d " + d, x, 0, 0, 1);
            dueMended("28: GAP, d " + d, x, 1, Math.max(13, 7 + d), 0);
        }
    }

    /** Two hands, both busy with steps that stay, to 6 and to 9, when another machine fails at 4. */
    private static void handsOfThoseThatStay() {
        JoineryFloor x = Due.floor(new int[][] {{3, 2}, {0, 0}}, new int[] {0, 0, 0, 0},
            new int[][] {{0, 0, 6}, {1, 0, 9}, {2, 0, 1}, {3, 1, 5}, {3, 0, 1}});
        Due.due("28: hands", x.fail(1, 4, 3), 13);
        int[] begins = {0, 0, 6, 7, 12};
        for (int s = 0; s < 5; s++) dueMended("28: hands", x, s, begins[s], s < 2 ? 1 : 0);
    }

    /** Steps 0 and 2 are under way at 4 and done again; step 1 has ended, and holds no hand. */
    private static void crewFails() {
        JoineryFloor x = Due.floor(new int[][] {{3, 2}}, new int[] {0, 0, 0, 0},
            new int[][] {{0, 0, 10}, {1, 0, 4}, {2, 0, 5}, {3, 0, 4}});
        Due.dueBegins("28: crew", x, 0, 0, 4, 9);
        Due.due("28: crew, t 4", x.fail(0, 4, 3), 17);
        int[] begins = {7, 0, 7, 12};
        for (int s = 0; s < 4; s++) dueMended("28: crew, t 4", x, s, begins[s], s == 1 ? 1 : 0);
        Due.due("28: crew, t 3", x.fail(0, 3, 3), 19);
        int[] sooner = {6, 6, 10, 15};
        for (int s = 0; s < 4; s++) dueMended("28: crew, t 3", x, s, sooner[s], 0);
    }

    private static void dryingFails() {
        JoineryFloor x = Due.floor(new int[][] {{1, 0}}, new int[] {0, 0, 0},
            new int[][] {{0, 0, 4}, {1, 0, 5}, {2, 0, 6}});
        Due.due("28: drying", x.fail(0, 5, 2), 13);
        dueMended("28: ended ahead of t", x, 0, 0, 1);
        dueMended("28: ended at t", x, 1, 0, 1);
        dueMended("28: under way at t", x, 2, 7, 0);
    }

    private static void ringIsNot() {
        JoineryFloor x = Due.ring();
        Due.due("28: a ring", x.fail(0, 0, 0), Due.NOT);
        Due.due("29: no fail() yet", x.mended(0, 0), Due.NONE);
        x.swap(1, 0);
        Due.due("28: no ring", x.fail(0, 0, 0), 11);
        Due.due("29: of that", x.mended(2, 0), 0);
    }

    private static void noFailYet() {
        JoineryFloor x = Due.crossing();
        for (int s = 0; s < 4; s++) {
            for (int what = 0; what < 2; what++) Due.due("29: no fail() yet", x.mended(s, what), Due.NONE);
        }
        x.fail(2, 0, 0);
        x.fail(0, -1, 0);
        x.fail(0, 0, 10001);
        for (int s = 0; s < 4; s++) {
            for (int what = 0; what < 2; what++) Due.due("29: all were refused", x.mended(s, what), Due.NONE);
        }
    }

    private static void cameSince() {
        JoineryFloor x = twoSteps();
        x.fail(0, 5, 2);
        x.step(0, 0, 4);
        for (int what = 0; what < 2; what++) Due.due("29: came since", x.mended(2, what), Due.NONE);
        dueMended("29: was there", x, 1, 7, 0);
        Due.due("28: with it", x.fail(0, 5, 2), 15);
        dueMended("29: with it", x, 2, 11, 0);
    }

    private static void latestNotRefused() {
        JoineryFloor x = twoSteps();
        x.fail(0, 5, 2);
        Due.due("28: refused", x.fail(3, 5, 9), Due.UNKNOWN);
        Due.due("28: refused", x.fail(0, 100001, 9), Due.OUTSIDE);
        Due.due("28: refused", x.fail(0, 5, 10001), Due.OUTSIDE);
        dueMended("29: of the latest", x, 0, 0, 1);
        dueMended("29: of the latest", x, 1, 7, 0);
        Due.due("28: another", x.fail(0, 7, 9), 7);
        dueMended("29: of the latest", x, 1, 3, 1);
    }

    private static void dayStays() {
        JoineryFloor x = Due.crossing();
        x.swap(1, 0);
        for (int t = 0; t < 9; t++) {
            x.fail(0, t, 10000);
            x.fail(1, t, 10000);
            Due.due("28: END", x.end(), 7);
            Due.dueBegins("28: THE DAY", x, 0, 3, 0, 3);
            Due.dueOrder("28: THE ORDERS", x, 0, 3);
            Due.dueOrder("28: THE ORDERS", x, 2, 1);
        }
    }
}
