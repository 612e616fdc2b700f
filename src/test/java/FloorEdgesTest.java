/** The boundary cases of section 1, and of the promises 1 to 6 on the floor. */
public final class FloorEdgesTest {
    private static final int LOWEST = Integer.MIN_VALUE, HIGHEST = Integer.MAX_VALUE;

    public static void main(String[] args) {
        newObject();
        kinds();
        withOfPlainAndDrying();
        gaps();
        hands();
        eightMachines();
        sorts();
        twelvePieces();
        spans();
        eightStepsOfPiece();
        thirtyTwoSteps();
        numbersGoOnBehindRefusals();
        toldOfFirstAndLast();
        countOfAll();
        simpleByMachinesWithSteps();
        lastOf512Calls();
        Due.finish();
    }

    private static void newObject() {
        JoineryFloor x = new JoineryFloor();
        int[] counts = {0, 0, 0, 1, 0};
        for (int what = 0; what < 5; what++) Due.due("1: count(" + what + ")", x.count(what), counts[what]);
        Due.due("1: CODE", x.code(), 0);
        Due.due("1: no machine", x.step(0, 0, 1), Due.UNKNOWN);
        Due.due("1: no machine", x.swap(0, 0), Due.UNKNOWN);
        Due.due("1: no machine", x.bound(0, 0), Due.UNKNOWN);
        Due.due("1: no machine", x.fail(0, 0, 0), Due.UNKNOWN);
        Due.due("1: no step", x.told(0, 0), Due.UNKNOWN);
        Due.due("1: no step", x.lay(0, 0), Due.UNKNOWN);
        Due.due("1: no step", x.begin(0), Due.UNKNOWN);
        Due.due("1: no step", x.tail(0, 0), Due.UNKNOWN);
        Due.due("1: no step", x.window(0, 0), Due.UNKNOWN);
        Due.due("1: no step", x.must(0, 0), Due.UNKNOWN);
        Due.due("1: no step", x.mended(0, 0), Due.UNKNOWN);
    }

    private static void kinds() {
        for (int kind : new int[] {LOWEST, -1, 0, 1, 2, 3, 4, HIGHEST}) {
            JoineryFloor x = new JoineryFloor();
            boolean good = kind >= 0 && kind <= 3;
            Due.due("2: KIND " + kind, x.machine(kind, 1), good ? 0 : Due.OUTSIDE);
            Due.due("2: KIND " + kind, x.count(0), good ? 1 : 0);
        }
    }

    private static void withOfPlainAndDrying() {
        for (int kind = 0; kind < 2; kind++) {
            for (int with : new int[] {LOWEST, -1, 0, 5, 101, HIGHEST}) {
                JoineryFloor x = Due.floor(new int[0][], new int[] {0, 1}, new int[0][]);
                Due.due("2: not looked at", x.machine(kind, with), 0);
                x.step(0, 0, 3);
                x.step(1, 0, 4);
                Due.due("2: KIND " + kind + " with " + with, x.begin(1), kind == 0 ? 3 : 0);
            }
        }
    }

    private static void gaps() {
        for (int gap : new int[] {LOWEST, -1, 0, 1, 99, 100, 101, HIGHEST}) {
            JoineryFloor x = Due.floor(new int[0][], new int[] {0, 1}, new int[0][]);
            boolean good = gap >= 0 && gap <= 100;
            Due.due("2: GAP " + gap, x.machine(2, gap), good ? 0 : Due.OUTSIDE);
            Due.due("2: GAP " + gap, x.step(0, 0, 3), good ? 0 : Due.UNKNOWN);
            x.step(1, 0, 4);
            Due.due("2: GAP " + gap, x.begin(1), good ? 3 + gap : Due.UNKNOWN);
        }
    }

    /** Five steps of 10, each of another piece. */
    private static void hands() {
        for (int hands : new int[] {LOWEST, -1, 0, 1, 2, 3, 4, 5, HIGHEST}) {
            JoineryFloor x = Due.floor(new int[0][], new int[5], new int[0][]);
            boolean good = hands >= 1 && hands <= 4;
            Due.due("2: HANDS " + hands, x.machine(3, hands), good ? 0 : Due.OUTSIDE);
            for (int p = 0; p < 5; p++) x.step(p, 0, 10);
            for (int s = 0; s < 5; s++) {
                Due.due("2: HANDS " + hands, x.begin(s), good ? s / hands * 10 : Due.UNKNOWN);
            }
        }
    }

    private static void eightMachines() {
        for (int kind = 0; kind < 4; kind++) {
            JoineryFloor x = new JoineryFloor();
            for (int m = 0; m < 8; m++) Due.due("2: the numbers as they come", x.machine(kind, 1), m);
            Due.due("2: a ninth", x.machine(kind, 1), Due.FULL);
            Due.due("2: eight", x.count(0), 8);
            x.piece(0);
            Due.due("2: the eighth", x.step(0, 7, 1), 0);
            Due.due("2: no ninth", x.step(0, 8, 1), Due.UNKNOWN);
        }
    }

    private static void sorts() {
        for (int sort : new int[] {LOWEST, -1, 0, 1, 8, 9, 10, HIGHEST}) {
            JoineryFloor x = Due.floor(new int[][] {{2, 50}}, new int[] {4}, new int[][] {{0, 0, 3}});
            boolean good = sort >= 0 && sort <= 9;
            Due.due("3: SORT " + sort, x.piece(sort), good ? 1 : Due.OUTSIDE);
            Due.due("3: SORT " + sort, x.count(1), good ? 2 : 1);
            x.step(1, 0, 1);
            Due.due("3: SORT " + sort + " is unlike 4", x.begin(1), good ? 53 : Due.UNKNOWN);
        }
        for (int sort = 0; sort < 10; sort++) {
            JoineryFloor x = Due.floor(new int[][] {{2, 50}}, new int[] {sort, sort},
                new int[][] {{0, 0, 3}, {1, 0, 1}});
            Due.due("3: like SORTS " + sort, x.begin(1), 3);
        }
    }

    private static void twelvePieces() {
        JoineryFloor x = new JoineryFloor();
        for (int p = 0; p < 12; p++) {
            Due.due("3: the numbers as they come", x.piece(p % 10), p);
            Due.due("3: without steps", x.count(2), 0);
        }
        Due.due("3: a thirteenth", x.piece(0), Due.FULL);
        Due.due("3: twelve", x.count(1), 12);
        x.machine(0, 0);
        Due.due("3: the twelfth", x.step(11, 0, 1), 0);
        Due.due("3: no thirteenth", x.step(12, 0, 1), Due.UNKNOWN);
    }

    private static void spans() {
        for (int span : new int[] {LOWEST, -1, 0, 1, 2, 999, 1000, 1001, HIGHEST}) {
            JoineryFloor x = Due.floor(new int[][] {{0, 0}}, new int[] {0}, new int[0][]);
            boolean good = span >= 1 && span <= 1000;
            Due.due("4: SPAN " + span, x.step(0, 0, span), good ? 0 : Due.OUTSIDE);
            Due.due("4: SPAN " + span, x.end(), good ? span : 0);
            Due.due("4: SPAN " + span, x.count(4), good ? span : 0);
        }
    }

    private static void eightStepsOfPiece() {
        JoineryFloor x = Due.floor(new int[][] {{0, 0}, {1, 0}}, new int[] {0, 0}, new int[0][]);
        for (int k = 0; k < 8; k++) {
            Due.due("4: step " + k + " of its piece", x.step(1, k % 2, 1 + k), k);
            Due.due("4: which of its piece", x.told(k, 3), k);
        }
        for (int m = 0; m < 2; m++) Due.due("4: a ninth of its piece", x.step(1, m, 1), Due.FULL);
        Due.due("4: eight", x.count(2), 8);
        Due.due("4: 36 in all", x.count(4), 36);
        Due.due("4: another piece has room", x.step(0, 0, 1), 8);
        Due.due("4: a piece of eight still has none", x.step(1, 0, 1), Due.FULL);
    }

    private static void thirtyTwoSteps() {
        JoineryFloor x = Due.floor(new int[][] {{0, 0}}, new int[12], new int[0][]);
        for (int s = 0; s < 32; s++) Due.due("4: step " + s, x.step(s % 12, 0, 1000), s);
        for (int p = 0; p < 12; p++) Due.due("4: a thirty-third", x.step(p, 0, 1), Due.FULL);
        Due.due("4: 32", x.count(2), 32);
        Due.due("4: none came of it", x.told(32, 0), Due.UNKNOWN);
        Due.due("4: 32 of 1000", x.end(), 32000);
        Due.due("4: the last", x.begin(31), 31000);
    }

    private static void numbersGoOnBehindRefusals() {
        JoineryFloor x = new JoineryFloor();
        Due.due("2: first", x.machine(0, 0), 0);
        Due.due("2: refused", x.machine(4, 0), Due.OUTSIDE);
        Due.due("2: second", x.machine(1, 0), 1);
        Due.due("3: first", x.piece(0), 0);
        Due.due("3: refused", x.piece(10), Due.OUTSIDE);
        Due.due("3: second", x.piece(9), 1);
        Due.due("4: first", x.step(1, 1, 2), 0);
        Due.due("4: refused", x.step(1, 1, 0), Due.OUTSIDE);
        Due.due("4: refused", x.step(2, 1, 2), Due.UNKNOWN);
        Due.due("4: second", x.step(1, 1, 3), 1);
        Due.due("4: which of its piece", x.told(1, 3), 1);
        Due.due("4: its place", x.told(1, 4), 1);
    }

    private static void toldOfFirstAndLast() {
        JoineryFloor x = Due.floor(new int[][] {{0, 0}, {1, 0}}, new int[] {0, 0},
            new int[][] {{1, 0, 4}, {1, 1, 6}, {0, 0, 9}});
        int[][] due = {{1, 0, 4, 0, 0}, {1, 1, 6, 1, 0}, {0, 0, 9, 0, 1}};
        for (int s = -1; s <= 3; s++) {
            for (int what = -1; what <= 5; what++) {
                boolean known = s >= 0 && s < 3;
                int want = !known ? Due.UNKNOWN : what < 0 || what > 4 ? Due.OUTSIDE : due[s][what];
                Due.due("5: told(" + s + ", " + what + ")", x.told(s, what), want);
            }
        }
    }

    private static void countOfAll() {
        JoineryFloor x = Due.floor(new int[][] {{0, 0}, {2, 0}, {1, 0}}, new int[] {0, 0},
            new int[][] {{0, 0, 1000}, {1, 2, 1}, {1, 0, 7}});
        int[] due = {3, 2, 3, 1, 1008};
        for (int what = -1; what <= 5; what++) {
            int want = what < 0 || what > 4 ? Due.OUTSIDE : due[what];
            Due.due("6: count(" + what + ")", x.count(what), want);
        }
    }

    /** Machines without steps do not matter; one step on a SETTING or a CREW machine does, wherever it comes. */
    private static void simpleByMachinesWithSteps() {
        for (int kind = 0; kind < 4; kind++) {
            for (int place = 0; place < 8; place++) {
                int[][] machines = new int[8][];
                for (int m = 0; m < 8; m++) machines[m] = m == place ? new int[] {kind, 1} : new int[] {m % 2, 0};
                JoineryFloor x = Due.floor(machines, new int[] {0}, new int[0][]);
                Due.due("1: no steps", x.count(3), 1);
                x.step(0, (place + 1) % 8, 5);
                Due.due("1: a step on another machine", x.count(3), 1);
                x.step(0, place, 5);
                Due.due("1: a step on kind " + kind, x.count(3), kind < 2 ? 1 : 0);
            }
        }
    }

    /** An object is good for 512 calls: the last ones answer as the first. */
    private static void lastOf512Calls() {
        JoineryFloor x = new JoineryFloor();
        x.machine(0, 0);
        x.machine(0, 0);
        x.piece(0);
        x.piece(0);
        int[][] steps = {{0, 0, 3}, {0, 1, 2}, {1, 1, 2}, {1, 0, 4}};
        for (int[] s : steps) x.step(s[0], s[1], s[2]);
        for (int call = 8; call < 508; call += 2) {
            boolean swappedBack = call % 4 != 0;
            Due.due("call " + (call + 1), x.swap(1, 0), 1);
            Due.due("call " + (call + 2), x.end(), swappedBack ? 11 : 7);
        }
        Due.due("call 509", x.least(100), 1);
        Due.due("call 510", x.found(0), 7);
        Due.due("call 511", x.fail(0, 2, 1), 10);
        Due.due("call 512", x.mended(0, 0), 3);
    }
}
