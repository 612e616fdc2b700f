import java.util.ArrayList;
import java.util.List;
import java.util.Random;

/**
 * What is claimed of all days, held against all days: on small floors every order of every PLAIN machine is laid, each
 * on a new object. This needs no second writing of the document.
 */
public final class AllOrdersTest {
    private static final int PLAIN_MACHINES = 2, PIECES = 3;

    /** One day, by one choice of orders. */
    private record Laid(int end, int[] begins, int[] tails) {
    }

    public static void main(String[] args) {
        int narrowed = 0;
        for (int seed = 0; seed < 200; seed++) {
            int[][] steps = steps(new Random(seed));
            List<Laid> days = new ArrayList<>();
            layAll(steps, 0, new ArrayList<>(), days);
            int least = Integer.MAX_VALUE;
            for (Laid day : days) least = Math.min(least, day.end);
            String what = "floor " + seed;
            leastDay(what, steps, least);
            bounds(what, steps, least);
            ways(what, steps, least);
            for (int t = Math.max(0, least - 3); t < least + 4; t++) narrowed += windows(what, steps, days, t);
        }
        Due.due("some pairs were told", narrowed > 100 ? 1 : 0, 1);
        Due.finish();
    }

    /** Two or three steps a piece, on the PLAIN machines 0 and 1 (four steps at most each) or the DRYING machine 2. */
    private static int[][] steps(Random random) {
        List<int[]> steps = new ArrayList<>();
        int[] on = new int[PLAIN_MACHINES + 1];
        for (int p = 0; p < PIECES; p++) {
            int count = 2 + random.nextInt(2);
            for (int k = 0; k < count; k++) {
                int m = random.nextInt(5) == 0 ? PLAIN_MACHINES : random.nextInt(PLAIN_MACHINES);
                if (m < PLAIN_MACHINES && on[m] == 4) m = PLAIN_MACHINES;
                on[m]++;
                steps.add(new int[] {p, m, 1 + random.nextInt(6)});
            }
        }
        return steps.toArray(new int[0][]);
    }

    private static JoineryFloor made(int[][] steps) {
        JoineryFloor x = new JoineryFloor();
        for (int m = 0; m < PLAIN_MACHINES; m++) x.machine(0, 0);
        x.machine(1, 0);
        for (int p = 0; p < PIECES; p++) x.piece(0);
        for (int[] s : steps) x.step(s[0], s[1], s[2]);
        return x;
    }

    private static void layAll(int[][] steps, int m, List<Integer> laid, List<Laid> days) {
        if (m == PLAIN_MACHINES) {
            addDay(steps, laid, days);
            return;
        }
        boolean full = true;
        for (int s = 0; s < steps.length; s++) {
            if (steps[s][1] != m || laid.contains(s)) continue;
            full = false;
            laid.add(s);
            layAll(steps, m, laid, days);
            laid.remove(laid.size() - 1);
        }
        if (full) layAll(steps, m + 1, laid, days);
    }

    private static void addDay(int[][] steps, List<Integer> laid, List<Laid> days) {
        JoineryFloor x = made(steps);
        int[] place = new int[PLAIN_MACHINES];
        for (int s : laid) x.lay(s, place[steps[s][1]]++);
        if (x.end() == Due.NONE) return;
        Laid day = new Laid(x.end(), new int[steps.length], new int[steps.length]);
        for (int s = 0; s < steps.length; s++) {
            day.begins[s] = x.begin(s);
            day.tails[s] = x.tail(s, 0);
        }
        days.add(day);
        dueRow(x, steps, day);
    }

    /** THE ROW goes without a pause from 0 to END. */
    private static void dueRow(JoineryFloor x, int[][] steps, Laid day) {
        int moment = 0;
        for (int i = 0; x.row(i) != Due.NONE; i++) {
            Due.due("19: row(" + i + ") begins", day.begins[x.row(i)], moment);
            moment += steps[x.row(i)][2];
        }
        Due.due("19: the row's end", moment, day.end);
    }

    private static void leastDay(String what, int[][] steps, int least) {
        JoineryFloor x = made(steps);
        int first = x.end();
        Due.due(what + " 26: a hundred cases are enough", x.least(100), 1);
        Due.due(what + " 27: BEST", x.found(0), least);
        Due.due(what + " 16: END of the orders that were found", x.end(), least);
        Due.due(what + " 27: found, if it is less", x.found(2) > 0 ? 1 : 0, least < first ? 1 : 0);
    }

    /** CUT is not above WHOLE, WHOLE not above the least day. */
    private static void bounds(String what, int[][] steps, int least) {
        JoineryFloor x = made(steps);
        for (int m = 0; m < PLAIN_MACHINES; m++) {
            Due.due(what + " 25: CUT, WHOLE", x.bound(m, 0) <= x.bound(m, 1) ? 1 : 0, 1);
            Due.due(what + " 25: WHOLE, the least day", x.bound(m, 1) <= least ? 1 : 0, 1);
        }
    }

    /** Rules and swaps give days; none is less than the least, and swaps make none longer. */
    private static void ways(String what, int[][] steps, int least) {
        JoineryFloor x = made(steps);
        for (int k = 0; k < 3; k++) {
            int end = x.rule(k);
            Due.due(what + " 20: the rule's END", x.end(), end);
            int swaps = x.better(50);
            Due.due(what + " 21: END by swaps", x.end() <= end - swaps && x.end() >= least ? 1 : 0, 1);
            Due.due(what + " 21: no more swaps", x.better(50), 0);
        }
    }

    /** Every day that ends by t lies within the windows for t, and keeps to what must go ahead; how many pairs do. */
    private static int windows(String what, int[][] steps, List<Laid> days, int t) {
        JoineryFloor x = made(steps);
        boolean open = x.windows(t) == 1;
        for (int s = 0; s < steps.length; s++) {
            int head = x.window(s, 0);
            int dead = x.window(s, 1);
            for (Laid day : days) {
                if (day.end > t) continue;
                Due.due(what + " 22: there is a day, T " + t, open ? 1 : 0, 1);
                Due.due(what + " 23: HEAD of " + s, head <= day.begins[s] ? 1 : 0, 1);
                Due.due(what + " 23: DEAD of " + s, dead >= t - day.tails[s] ? 1 : 0, 1);
            }
            if (open) Due.due(what + " 23: the window of " + s, head + steps[s][2] <= dead ? 1 : 0, 1);
        }
        return open ? pairs(what, x, steps, days, t) : 0;
    }

    private static int pairs(String what, JoineryFloor asked, int[][] steps, List<Laid> days, int t) {
        int told = 0;
        for (int f = 0; f < steps.length; f++) {
            int ahead = 0;
            for (int g = 0; g < steps.length; g++) {
                if (asked.must(f, g) != 1) continue;
                ahead++;
                Due.due(what + " 24: of one PLAIN machine", steps[f][1] < 2 ? steps[f][1] : -1, steps[g][1]);
                for (Laid day : days) {
                    boolean kept = day.end > t || day.begins[f] < day.begins[g];
                    Due.due(what + " 24: " + f + " ahead of " + g, kept ? 1 : 0, 1);
                }
            }
            Due.due(what + " 23: in how many pairs " + f + " is ahead", asked.window(f, 2), ahead);
            told += ahead;
        }
        return told;
    }
}
