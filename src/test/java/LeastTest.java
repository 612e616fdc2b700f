import java.util.ArrayList;
import java.util.List;
import java.util.Random;

/** Promises 26 and 27: the least day. */
public final class LeastTest {
    public static void main(String[] args) {
        crossing();
        fromRing();
        burstAtOnce();
        cases();
        rounds();
        refusals();
        dryingStays();
        leastOfAllOrders();
        Due.finish();
    }

    private static void crossing() {
        JoineryFloor x = Due.crossing();
        Due.dueFound("27: ahead of any", x, 0, 0, 0);
        Due.due("26: no cases", x.least(0), 0);
        Due.dueFound("27: no cases", x, 11, 0, 0);
        Due.due("26: as they were", x.end(), 11);
        Due.due("26: one case", x.least(1), 1);
        Due.dueFound("27: one case", x, 7, 1, 1);
        Due.due("26: the orders are those", x.end(), 7);
        Due.dueOrder("26: the orders are those", x, 0, 3);
        Due.dueOrder("26: the orders are those", x, 2, 1);
        Due.due("26: once more", x.least(100), 1);
        Due.dueFound("27: none were found", x, 7, 1, 0);
    }

    private static void fromRing() {
        JoineryFloor x = Due.ring();
        Due.due("26: a ring, no cases", x.least(0), 0);
        Due.dueFound("27: the sum of spans and 1", x, 12, 0, 0);
        Due.due("26: the ring stays", x.end(), Due.NONE);
        Due.due("26: a ring", x.least(100), 1);
        Due.due("27: a ring", x.found(0), 7);
        Due.due("26: no ring", x.end(), 7);
    }

    private static void burstAtOnce() {
        JoineryFloor x = Due.floor(new int[][] {{0, 0}}, new int[] {0, 0, 0},
            new int[][] {{0, 0, 4}, {1, 0, 4}, {2, 0, 4}});
        Due.due("26: burst at once", x.least(100), 1);
        Due.dueFound("27: burst at once", x, 12, 1, 0);
    }

    /** A floor that takes fifteen cases and finds orders four times; each number of cases is tried from its start. */
    private static void cases() {
        int[] bests = new int[16];
        for (int n = 0; n < 16; n++) {
            Pair pair = new Pair();
            for (int m = 0; m < 3; m++) pair.call("machine", 0, 0);
            int[][] lines = {{0, 7, 2, 1, 1, 5}, {0, 3, 1, 3, 2, 4}, {0, 7, 1, 3, 2, 9}, {0, 8, 1, 8, 2, 3}};
            for (int p = 0; p < lines.length; p++) {
                pair.call("piece", 0);
                for (int k = 0; k < 6; k += 2) pair.call("step", p, lines[p][k], lines[p][k + 1]);
            }
            Due.due("26: done with " + n, pair.call("least", n), n < 15 ? 0 : 1);
            pair.askAll();
            Due.due("26: as the model has it", pair.wrong, 0);
            Due.due("27: cases, of " + n, pair.x.found(1), n);
            Due.due("26: BEST is the END", pair.x.end(), pair.x.found(0));
            bests[n] = pair.x.found(0);
            if (n == 15) Due.dueFound("27: all", pair.x, 31, 15, 4);
        }
        Due.due("27: the first BEST", bests[0], 36);
    }

    /** Step 1 told ahead of step 0 is a ring that narrows windows by 4 a round, till they burst or rounds are over. */
    private static void rounds() {
        int[][] twentyAreEnough = {{0, 3, 1}, {0, 3, 1}, {1, 0, 7}, {1, 2, 22}, {1, 1, 5}, {2, 2, 6}, {2, 0, 15},
            {2, 1, 17}, {3, 0, 25}, {3, 2, 10}, {3, 1, 20}};
        int[][] oneMoreWouldBe = {{0, 3, 1}, {0, 3, 1}, {1, 2, 1}, {1, 1, 13}, {1, 0, 29}, {2, 1, 13}, {2, 0, 1},
            {2, 2, 34}, {3, 1, 21}, {3, 0, 21}, {3, 2, 5}};
        int[][] machines = {{0, 0}, {0, 0}, {0, 0}, {0, 0}};
        JoineryFloor x = Due.floor(machines, new int[] {0, 0, 0, 0}, twentyAreEnough);
        Due.due("26: burst in round 20", x.least(100), 1);
        Due.dueFound("27: burst in round 20", x, 77, 25, 4);
        JoineryFloor y = Due.floor(machines, new int[] {0, 0, 0, 0}, oneMoreWouldBe);
        Due.due("26: no burst in 20 rounds", y.least(100), 1);
        Due.dueFound("27: no burst in 20 rounds", y, 81, 11, 2);
    }

    private static void refusals() {
        JoineryFloor x = Due.crossing();
        x.least(100);
        Due.due("26: -1", x.least(-1), Due.OUTSIDE);
        Due.due("26: 101", x.least(101), Due.OUTSIDE);
        Due.dueFound("27: of the one that was not refused", x, 7, 1, 1);
        x.machine(2, 3);
        x.step(0, 2, 1);
        Due.due("26: no simple floor", x.least(100), Due.NOT);
        Due.due("26: OUTSIDE is ahead of NOT", x.least(101), Due.OUTSIDE);
        Due.dueFound("27: of the one that was not refused", x, 7, 1, 1);
        Due.due("27: what -1", x.found(-1), Due.OUTSIDE);
        Due.due("27: what 3", x.found(3), Due.OUTSIDE);
        JoineryFloor y = Due.floor(new int[][] {{0, 0}}, new int[] {0}, new int[0][]);
        Due.due("26: no steps", y.least(100), Due.NOT);
        y.step(0, 0, 1);
        Due.due("26: one step", y.least(100), 1);
        Due.dueFound("27: one step", y, 1, 1, 0);
    }

    private static void dryingStays() {
        JoineryFloor x = Due.floor(new int[][] {{0, 0}, {1, 0}}, new int[] {0, 0},
            new int[][] {{0, 0, 5}, {0, 1, 4}, {1, 0, 3}, {1, 1, 9}});
        x.lay(3, 0);
        Due.due("26: least", x.least(100), 1);
        Due.dueFound("27: least", x, 12, 1, 1);
        Due.dueOrder("26: the plain machine", x, 2, 0);
        Due.dueOrder("26: a drying machine's order stays", x, 3, 1);
    }

    /** On small floors every order of every machine is tried, each on a new object. */
    private static void leastOfAllOrders() {
        Random random = new Random(5);
        for (int floor = 0; floor < 25; floor++) {
            List<int[]> steps = new ArrayList<>();
            for (int p = 0; p < 3; p++) {
                for (int k = 0; k < 3; k++) {
                    int m = random.nextInt(5) == 0 ? random.nextInt(3) : (k * (1 + p % 2) + p) % 3;
                    steps.add(new int[] {p, m, 1 + random.nextInt(9)});
                }
            }
            int[][] all = steps.toArray(new int[0][]);
            JoineryFloor x = made(all);
            if (x.least(100) == 1) {
                Due.due("26: the least of all, floor " + floor, x.found(0), leastEnd(all, 0, new ArrayList<>()));
                Due.due("26: the orders have it, floor " + floor, x.end(), x.found(0));
            }
        }
    }

    private static JoineryFloor made(int[][] steps) {
        return Due.floor(new int[][] {{0, 0}, {0, 0}, {0, 0}}, new int[] {0, 0, 0}, steps);
    }

    private static int leastEnd(int[][] steps, int m, List<Integer> laid) {
        if (m == 3) return endBy(steps, laid);
        List<Integer> on = new ArrayList<>();
        for (int s = 0; s < steps.length; s++) if (steps[s][1] == m && !laid.contains(s)) on.add(s);
        if (on.isEmpty()) return leastEnd(steps, m + 1, laid);
        int least = Integer.MAX_VALUE;
        for (int s : on) {
            laid.add(s);
            least = Math.min(least, leastEnd(steps, m, laid));
            laid.remove(laid.size() - 1);
        }
        return least;
    }

    private static int endBy(int[][] steps, List<Integer> laid) {
        JoineryFloor x = new JoineryFloor();
        for (int m = 0; m < 3; m++) x.machine(0, 0);
        for (int p = 0; p < 3; p++) x.piece(0);
        for (int[] s : steps) x.step(s[0], s[1], s[2]);
        int[] place = new int[3];
        for (int s : laid) x.lay(s, place[steps[s][1]]++);
        int end = x.end();
        return end == Due.NONE ? Integer.MAX_VALUE : end;
    }
}
