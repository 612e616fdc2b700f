import java.util.Random;

/** Windows of many SIMPLE floors, for times about those at which they burst, against the model. */
public final class RandomWindowsTest {
    private static final int FLOORS = 8000;

    public static void main(String[] args) {
        int wrong = 0;
        int bursts = 0;
        int open = 0;
        for (int seed = 0; seed < FLOORS && wrong < 5; seed++) {
            Random random = new Random(seed);
            Pair pair = seed % 2 == 0 ? floor(random) : aboutOneMachine(random);
            int end = pair.call("rule", random.nextInt(3));
            for (int k = 0; k < 6; k++) {
                if (pair.call("windows", end - random.nextInt(end / 3 + 1)) == 1) open++;
                else bursts++;
                pair.askWindows();
            }
            if (random.nextInt(4) == 0) {
                pair.call("least", random.nextInt(12));
                for (int what = 0; what < 3; what++) pair.call("found", what);
                for (int s = 0; s < pair.y.steps.size(); s++) pair.call("told", s, 4);
                pair.askWindows();
            }
            if (pair.wrong > 0) {
                wrong++;
                System.out.println("seed " + seed + ": " + pair.wrong + " answers are not as due");
            }
        }
        System.out.println(open + " windows open, " + bursts + " burst");
        if (wrong > 0 || open < FLOORS / 2 || bursts < FLOORS / 2) System.exit(1);
    }

    private static Pair floor(Random random) {
        Pair pair = new Pair();
        int machines = 1 + random.nextInt(4);
        for (int m = 0; m < machines; m++) pair.call("machine", random.nextInt(6) == 0 ? 1 : 0, 0);
        int pieces = 2 + random.nextInt(6);
        int most = 1 + random.nextInt(5);
        int longest = new int[] {3, 9, 30, 100}[random.nextInt(4)];
        for (int p = 0; p < pieces; p++) {
            pair.call("piece", 0);
            int steps = 1 + random.nextInt(most);
            for (int k = 0; k < steps; k++) {
                pair.call("step", p, random.nextInt(machines), 1 + random.nextInt(longest));
            }
        }
        return pair;
    }

    /** Steps of one PLAIN machine, each with drying ahead and behind: that is where sets matter most. */
    private static Pair aboutOneMachine(Random random) {
        Pair pair = new Pair();
        pair.call("machine", 0, 0);
        pair.call("machine", 1, 0);
        int pieces = 2 + random.nextInt(5);
        int longest = random.nextBoolean() ? 6 : 12;
        for (int p = 0; p < pieces; p++) {
            pair.call("piece", 0);
            if (random.nextInt(3) > 0) pair.call("step", p, 1, 1 + random.nextInt(longest));
            pair.call("step", p, 0, 1 + random.nextInt(longest));
            if (random.nextInt(3) > 0) pair.call("step", p, 1, 1 + random.nextInt(longest));
        }
        return pair;
    }
}
