/** Promises 1 to 6: the floor. */
public final class FloorTest {
    public static void main(String[] args) {
        newObject();
        machines();
        machinesFull();
        pieces();
        steps();
        stepsOfPieceFull();
        stepsFull();
        told();
        count();
        simple();
        Due.finish();
    }

    private static void newObject() {
        JoineryFloor x = new JoineryFloor();
        int[] counts = {0, 0, 0, 1, 0};
        for (int what = 0; what < 5; what++) Due.due("1: count(" + what + ")", x.count(what), counts[what]);
        Due.due("1: code()", x.code(), 0);
        for (int s = 0; s < 6; s++) Due.due("1: tear(" + s + ")", x.tear(s), 0);
        Due.due("1: end()", x.end(), 0);
        Due.due("1: row(0)", x.row(0), Due.NONE);
        for (int what = 0; what < 3; what++) Due.due("1: found(" + what + ")", x.found(what), 0);
        Due.due("1: begin(0)", x.begin(0), Due.UNKNOWN);
        Due.due("1: fail(0, 0, 0)", x.fail(0, 0, 0), Due.UNKNOWN);
        Due.due("1: rule(0)", x.rule(0), 0);
        Due.due("1: better(1)", x.better(1), 0);
        Due.due("1: windows(0)", x.windows(0), 1);
        Due.due("1: least(1)", x.least(1), Due.NOT);
        JoineryFloor other = new JoineryFloor();
        other.machine(0, 0);
        Due.due("1: objects share nothing", x.count(0), 0);
    }

    private static void machines() {
        JoineryFloor x = new JoineryFloor();
        Due.due("2: kind -1", x.machine(-1, 1), Due.OUTSIDE);
        Due.due("2: kind 4", x.machine(4, 1), Due.OUTSIDE);
        Due.due("2: lowest kind", x.machine(Due.LOWEST, 1), Due.OUTSIDE);
        Due.due("2: gap -1", x.machine(2, -1), Due.OUTSIDE);
        Due.due("2: gap 101", x.machine(2, 101), Due.OUTSIDE);
        Due.due("2: hands 0", x.machine(3, 0), Due.OUTSIDE);
        Due.due("2: hands 5", x.machine(3, 5), Due.OUTSIDE);
        Due.due("2: nothing came of these", x.count(0), 0);
        Due.due("2: plain, with not looked at", x.machine(0, Due.LOWEST), 0);
        Due.due("2: drying, with not looked at", x.machine(1, Due.HIGHEST), 1);
        Due.due("2: gap 0", x.machine(2, 0), 2);
        Due.due("2: gap 100", x.machine(2, 100), 3);
        Due.due("2: hands 1", x.machine(3, 1), 4);
        Due.due("2: hands 4", x.machine(3, 4), 5);
        Due.due("2: count", x.count(0), 6);
    }

    private static void machinesFull() {
        JoineryFloor x = new JoineryFloor();
        for (int m = 0; m < 8; m++) Due.due("2: machine " + m, x.machine(m % 2, 0), m);
        Due.due("2: a ninth", x.machine(0, 0), Due.FULL);
        Due.due("2: OUTSIDE is ahead of FULL", x.machine(4, 0), Due.OUTSIDE);
        Due.due("2: OUTSIDE gap is ahead of FULL", x.machine(2, 101), Due.OUTSIDE);
        Due.due("2: still eight", x.count(0), 8);
    }

    private static void pieces() {
        JoineryFloor x = new JoineryFloor();
        Due.due("3: sort -1", x.piece(-1), Due.OUTSIDE);
        Due.due("3: sort 10", x.piece(10), Due.OUTSIDE);
        Due.due("3: none came", x.count(1), 0);
        for (int p = 0; p < 12; p++) Due.due("3: piece " + p, x.piece(p % 10), p);
        Due.due("3: a thirteenth", x.piece(0), Due.FULL);
        Due.due("3: OUTSIDE is ahead of FULL", x.piece(10), Due.OUTSIDE);
        Due.due("3: still twelve", x.count(1), 12);
        Due.due("3: without steps", x.count(2), 0);
    }

    private static void steps() {
        JoineryFloor x = Due.floor(new int[][] {{0, 0}}, new int[] {0, 0}, new int[0][]);
        Due.due("4: piece -1", x.step(-1, 0, 1), Due.UNKNOWN);
        Due.due("4: piece 2", x.step(2, 0, 1), Due.UNKNOWN);
        Due.due("4: machine -1", x.step(0, -1, 1), Due.UNKNOWN);
        Due.due("4: machine 1", x.step(0, 1, 1), Due.UNKNOWN);
        Due.due("4: UNKNOWN piece is ahead of OUTSIDE", x.step(2, 0, 0), Due.UNKNOWN);
        Due.due("4: UNKNOWN machine is ahead of OUTSIDE", x.step(0, 1, 0), Due.UNKNOWN);
        Due.due("4: span 0", x.step(0, 0, 0), Due.OUTSIDE);
        Due.due("4: span -1", x.step(0, 0, -1), Due.OUTSIDE);
        Due.due("4: span 1001", x.step(0, 0, 1001), Due.OUTSIDE);
        Due.due("4: none came", x.count(2), 0);
        Due.due("4: span 1", x.step(0, 0, 1), 0);
        Due.due("4: span 1000", x.step(1, 0, 1000), 1);
        Due.due("4: behind its others", x.step(0, 0, 5), 2);
        Due.due("4: which of its piece", x.told(2, 3), 1);
        Due.due("4: last in the order", x.told(2, 4), 2);
        Due.due("4: end", x.end(), 1006);
    }

    private static void stepsOfPieceFull() {
        JoineryFloor x = Due.floor(new int[][] {{0, 0}}, new int[] {0, 0}, new int[0][]);
        for (int s = 0; s < 8; s++) Due.due("4: step " + s, x.step(0, 0, 1), s);
        Due.due("4: a ninth of a piece", x.step(0, 0, 1), Due.FULL);
        Due.due("4: OUTSIDE is ahead of FULL", x.step(0, 0, 1001), Due.OUTSIDE);
        Due.due("4: UNKNOWN is ahead of FULL", x.step(0, 3, 1), Due.UNKNOWN);
        Due.due("4: still eight", x.count(2), 8);
        Due.due("4: another piece has room", x.step(1, 0, 1), 8);
    }

    private static void stepsFull() {
        JoineryFloor x = Due.floor(new int[][] {{1, 0}}, new int[] {0, 1, 2, 3, 4}, new int[0][]);
        for (int s = 0; s < 32; s++) Due.due("4: step " + s, x.step(s % 5, 0, 1000), s);
        Due.due("4: a thirty-third", x.step(4, 0, 1), Due.FULL);
        Due.due("4: OUTSIDE is ahead of FULL", x.step(4, 0, 0), Due.OUTSIDE);
        Due.due("4: still 32", x.count(2), 32);
        Due.due("4: the spans of 32", x.count(4), 32000);
    }

    private static void told() {
        JoineryFloor x = Due.floor(new int[][] {{0, 0}, {1, 0}}, new int[] {0, 0},
            new int[][] {{1, 1, 4}, {0, 1, 6}, {1, 0, 7}});
        int[][] due = {{1, 1, 4, 0, 0}, {0, 1, 6, 0, 1}, {1, 0, 7, 1, 0}};
        for (int s = 0; s < 3; s++) {
            for (int what = 0; what < 5; what++) {
                Due.due("5: told(" + s + ", " + what + ")", x.told(s, what), due[s][what]);
            }
        }
        Due.due("5: what -1", x.told(0, -1), Due.OUTSIDE);
        Due.due("5: what 5", x.told(0, 5), Due.OUTSIDE);
        Due.due("5: step -1", x.told(-1, 0), Due.UNKNOWN);
        Due.due("5: step 3", x.told(3, 0), Due.UNKNOWN);
        Due.due("5: UNKNOWN is ahead of OUTSIDE", x.told(3, 5), Due.UNKNOWN);
        x.lay(1, 0);
        Due.due("5: the place moves with the order", x.told(1, 4), 0);
        Due.due("5: the place of the other too", x.told(0, 4), 1);
    }

    private static void count() {
        JoineryFloor x = Due.unsimple();
        int[] counts = {3, 2, 4, 0, 11};
        for (int what = 0; what < 5; what++) Due.due("6: count(" + what + ")", x.count(what), counts[what]);
        Due.due("6: what -1", x.count(-1), Due.OUTSIDE);
        Due.due("6: what 5", x.count(5), Due.OUTSIDE);
        Due.due("6: highest what", x.count(Due.HIGHEST), Due.OUTSIDE);
    }

    private static void simple() {
        for (int kind = 0; kind < 4; kind++) {
            JoineryFloor x = Due.floor(new int[][] {{kind, 1}, {0, 0}}, new int[] {0}, new int[][] {{0, 1, 1}});
            Due.due("6: simple, as machine 0 has no step", x.count(3), 1);
            x.step(0, 0, 1);
            Due.due("6: kind " + kind + " with a step", x.count(3), kind < 2 ? 1 : 0);
        }
    }
}
