import java.util.Random;

/** Floors that are full: 8 machines, 12 pieces, 32 steps; a piece of 8 steps; all 32 on one machine. */
public final class FullTest {
    public static void main(String[] args) {
        int[][] mixes = {{0}, {0, 1}, {1}, {2}, {3}, {0, 1, 2, 3}};
        for (int mix = 0; mix < mixes.length; mix++) {
            for (int span : new int[] {9, 1000}) {
                full("machines of mix " + mix + ", spans to " + span, 8, mixes[mix], span);
                full("one machine of mix " + mix + ", spans to " + span, 1, mixes[mix], span);
            }
        }
        for (int kind = 0; kind < 4; kind++) ends(kind);
        Due.finish();
    }

    /** Piece 0 has 8 steps, the others share 24. */
    private static void full(String what, int machines, int[] kinds, int longest) {
        Random random = new Random(longest);
        Pair pair = new Pair();
        for (int m = 0; m < machines; m++) pair.call("machine", kinds[m % kinds.length], 1 + m % 4);
        for (int p = 0; p < 12; p++) pair.call("piece", p % 10);
        for (int s = 0; s < 32; s++) {
            pair.call("step", s % 4 == 0 ? 0 : 1 + s % 11, s % machines, 1 + random.nextInt(longest));
        }
        pair.call("step", 1, 0, 1);
        pair.askAll();
        for (int k = 0; k < 3; k++) pair.call("rule", k);
        pair.askAll();
        int end = pair.call("better", 50) < 0 ? 100 : pair.y.end();
        pair.call("windows", end);
        pair.call("windows", end - 1);
        pair.call("windows", end + 5);
        pair.call("least", 4);
        for (int m = 0; m < machines; m++) pair.call("fail", m, end / 2, 7);
        pair.call("swap", machines - 1, 0);
        pair.call("lay", 31, 0);
        pair.askAll();
        pair.call("windows", 100000);
        pair.call("least", 2);
        pair.call("rule", 0);
        pair.call("fail", 0, 100000, 10000);
        pair.askAll();
        Due.due(what, pair.wrong, 0);
    }

    /** 32 steps of 1000 one behind the other, on one machine of a kind; on DRYING by their pieces of 8. */
    private static void ends(int kind) {
        JoineryFloor x = Due.floor(new int[][] {{kind, 1}}, new int[4], new int[0][]);
        for (int s = 0; s < 32; s++) x.step(s / 8, 0, 1000);
        Due.due("16: kind " + kind, x.end(), kind == 1 ? 8000 : 32000);
        Due.due("17: kind " + kind, x.begin(31), kind == 1 ? 7000 : 31000);
        Due.due("28: kind " + kind, x.fail(0, 500, 10000), kind == 1 ? 18500 : 42500);
        Due.due("29: kind " + kind, x.mended(31, 0), kind == 1 ? 17500 : 41500);
        Due.due("15: kind " + kind, x.lay(31, 0), kind == 1 ? 1 : 0);
        Due.due("20: kind " + kind, x.rule(1), kind == 1 ? 8000 : 32000);
    }
}
