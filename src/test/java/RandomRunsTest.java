import java.util.Random;

/** Long runs of calls, drawn from numbered seeds, against the model: ordinary arguments, edges, wrong ones. */
public final class RandomRunsTest {
    private static final int RUNS = 1500;
    private static final int CALLS = 300;

    private final Random random;
    private final Pair pair = new Pair();
    /** The kinds that a run's machines are drawn from; a floor of PLAIN and DRYING ones is the only SIMPLE one. */
    private final int[] kinds;
    private final int longest;

    private RandomRunsTest(int seed) {
        random = new Random(seed);
        int[][] mixes = {{0}, {0, 0, 0, 1}, {0, 0, 1}, {0, 1, 2, 3}, {3}, {2}, {0, 3, 3, 2}, {0, 0}};
        kinds = mixes[seed % mixes.length];
        int[] spans = {3, 9, 9, 20, 100, 1000};
        longest = spans[random.nextInt(spans.length)];
    }

    public static void main(String[] args) {
        int wrong = 0;
        int calls = 0;
        for (int seed = 0; seed < RUNS && wrong < 5; seed++) {
            RandomRunsTest run = new RandomRunsTest(seed);
            run.go();
            calls += run.pair.rows.size();
            if (run.pair.wrong > 0) {
                wrong++;
                System.out.println("seed " + seed + ": " + run.pair.wrong + " answers are not as due");
            }
        }
        System.out.println(calls + " calls compared");
        if (wrong > 0) System.exit(1);
    }

    private void go() {
        // some begin on an empty floor, so that what stands before any machine or step is asked too
        if (random.nextInt(8) > 0) build();
        for (int k = 0; k < CALLS && pair.wrong == 0; k++) oneCall();
        pair.askAll();
        pair.askSheets();
    }

    private void build() {
        int machines = 1 + random.nextInt(random.nextBoolean() ? 3 : 8);
        for (int m = 0; m < machines; m++) pair.call("machine", kind(), 1 + random.nextInt(4));
        int pieces = 1 + random.nextInt(random.nextBoolean() ? 4 : 12);
        for (int p = 0; p < pieces; p++) pair.call("piece", random.nextInt(3));
        int steps = 1 + random.nextInt(random.nextBoolean() ? 9 : 32);
        for (int s = 0; s < steps; s++) pair.call("step", random.nextInt(pieces), random.nextInt(machines), span());
    }

    private int kind() {
        return kinds[random.nextInt(kinds.length)];
    }

    /** Short ones among long ones too: there a ring of steps told ahead needs more rounds than there are. */
    private int span() {
        return random.nextInt(4) == 0 ? 1 : 1 + random.nextInt(longest);
    }

    /** Mostly a number of the bounds; now and then an edge of them, or what lies beyond. */
    private int some(int least, int greatest) {
        int[] wild = {least - 1, least, greatest, greatest + 1, -1, 0, 1, Integer.MIN_VALUE, Integer.MAX_VALUE};
        if (greatest < least || random.nextInt(12) == 0) return wild[random.nextInt(wild.length)];
        return least + random.nextInt(greatest - least + 1);
    }

    private int aStep() {
        return some(0, pair.y.steps.size() - 1);
    }

    private int aMachine() {
        return some(0, pair.y.machines.size() - 1);
    }

    private void oneCall() {
        int kind = random.nextInt(100);
        if (kind < 8) grow();
        else if (kind < 30) useSheets();
        else if (kind < 70) useDays();
        else if (kind < 88) useWindows();
        else useFailures();
    }

    private void grow() {
        switch (random.nextInt(6)) {
            case 0:
                pair.call("machine", random.nextInt(4) == 0 ? some(0, 3) : kind(), some(1, 4));
                break;
            case 1:
                pair.call("piece", some(0, 9));
                break;
            case 2:
                pair.call("count", some(0, 4));
                break;
            case 3:
                pair.call("told", aStep(), some(0, 4));
                break;
            default:
                pair.call("step", some(0, pair.y.pieces.size() - 1), aMachine(),
                    random.nextInt(10) == 0 ? some(1, 1000) : span());
                break;
        }
    }

    private void useSheets() {
        int s = some(0, 5);
        int r = random.nextInt(3) == 0 ? s : some(0, 5);
        boolean there = s >= 0 && s <= 5 && pair.y.sheets[s] != null;
        int form = there && random.nextInt(6) > 0 ? pair.y.sheets[s].form : some(0, 2);
        int places = there ? pair.y.sheets[s].places.length : 4;
        switch (random.nextInt(10)) {
            case 0:
                pair.call("sheet", s, some(0, 2), random.nextInt(3) == 0 ? some(0, 40) : some(0, 8));
                break;
            case 1:
                if (random.nextInt(3) == 0) pair.call("tear", s);
                break;
            case 2:
                pair.call("put", s, form, some(0, places - 1), random.nextInt());
                break;
            case 3:
                fillForRead(s, form, places);
                break;
            case 4:
                pair.call("at", s, some(0, places - 1));
                break;
            case 5:
            case 6:
                pair.call("copy", s, some(0, places / 2), r, some(0, places / 2), some(0, places / 2));
                break;
            case 7:
                if (random.nextInt(4) == 0) pair.call("read", s, some(0, 9));
                break;
            default:
                pair.call("code");
                break;
        }
    }

    private void fillForRead(int s, int form, int places) {
        for (int i = 0; i + 1 < places && i < 16; i += 2) {
            pair.call("put", s, form, i, random.nextInt(20) == 0 ? some(0, 9) : random.nextInt(3));
            pair.call("put", s, form, i + 1, random.nextInt(20) == 0 ? some(0, 1001) : span());
        }
    }

    private void useDays() {
        int m = aMachine();
        boolean known = m >= 0 && m < pair.y.machines.size();
        int places = known ? pair.y.orders.get(m).size() : 3;
        switch (random.nextInt(12)) {
            case 0:
            case 1:
                pair.call("swap", m, some(0, places - 2));
                break;
            case 2:
                layOne();
                break;
            case 3:
            case 4:
                pair.call("end");
                break;
            case 5:
                pair.call("begin", aStep());
                break;
            case 6:
            case 7:
                pair.call("tail", aStep(), some(0, 1));
                break;
            case 8:
                pair.call("row", some(0, 8));
                break;
            case 9:
                if (random.nextInt(4) == 0) pair.call("rule", some(0, 2));
                break;
            case 10:
                if (random.nextInt(3) == 0) pair.call("better", random.nextBoolean() ? some(0, 3) : some(0, 50));
                break;
            default:
                pair.call("told", aStep(), 4);
                break;
        }
    }

    private void layOne() {
        int s = aStep();
        boolean known = s >= 0 && s < pair.y.steps.size();
        int places = known ? pair.y.orders.get(pair.y.steps.get(s).machine).size() : 3;
        pair.call("lay", s, some(0, places - 1));
        // a ring is left at once more often than not, else most of a run would have no day
        if (pair.y.end() < 0 && random.nextInt(3) > 0) pair.call("rule", random.nextInt(3));
    }

    private void useWindows() {
        switch (random.nextInt(14)) {
            case 0:
            case 1:
                pair.call("windows", aTime());
                break;
            case 2:
            case 3:
            case 4:
                pair.call("window", aStep(), some(0, 2));
                break;
            case 5:
            case 6:
                pair.call("must", aStep(), aStep());
                break;
            case 7:
                pair.call("bound", aMachine(), some(0, 1));
                break;
            case 8:
                if (random.nextInt(4) == 0) pair.call("least", random.nextBoolean() ? some(0, 5) : some(0, 100));
                break;
            default:
                pair.call("found", some(0, 2));
                break;
        }
    }

    /** Near the day's end, where windows are neither wide open nor burst at once. */
    private int aTime() {
        if (random.nextInt(5) == 0) return some(0, 100000);
        int end = Math.max(0, pair.y.end());
        return Math.max(0, end - end / 2 + random.nextInt(end / 2 + 2));
    }

    private void useFailures() {
        if (random.nextInt(3) == 0) {
            int end = Math.max(0, pair.y.end());
            int t = random.nextInt(6) == 0 ? some(0, 100000) : random.nextInt(end + 2);
            pair.call("fail", aMachine(), t, random.nextInt(6) == 0 ? some(0, 10000) : random.nextInt(longest + 1));
        } else {
            pair.call("mended", aStep(), some(0, 1));
        }
    }
}
