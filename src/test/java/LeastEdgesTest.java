/** The boundary cases of section 5, and of the promises 25 to 27 on bounds and the least day. */
public final class LeastEdgesTest {
    private static final int[][] PLAIN_AND_DRYING = {{0, 0}, {1, 0}};
    private static final int[][] TWO_PLAIN = {{0, 0}, {0, 0}};

    public static void main(String[] args) {
        boundWithoutSteps();
        boundOfOneStep();
        boundOfKinds();
        boundOfManySteps();
        cutWhenAnotherComes();
        cutWhenManyCome();
        cutStandsStill();
        cutWaitsForTheFirst();
        wholeOfAllOrders();
        boundsOfLongSpans();
        foundAheadOfAny();
        foundOfRefused();
        casesMoreThanTold();
        casesMoreThanAHundred();
        casesFromRing();
        nothingIsFoundAsLong();
        ordersAsTheyWere();
        nothingIsToldInTheFirst();
        leastWithoutSteps();
        leastOfOneStep();
        leastOfDrying();
        leastOfEightMachines();
        Due.finish();
    }

    private static void dueBounds(String what, JoineryFloor x, int m, int cut, int whole) {
        Due.due("25: " + what + ", CUT", x.bound(m, 0), cut);
        Due.due("25: " + what + ", WHOLE", x.bound(m, 1), whole);
    }

    private static void boundWithoutSteps() {
        JoineryFloor x = Due.floor(TWO_PLAIN, new int[] {0}, new int[][] {{0, 1, 5}});
        dueBounds("no steps", x, 0, 0, 0);
        x.step(0, 0, 1);
        dueBounds("a step", x, 0, 6, 6);
    }

    private static void boundOfOneStep() {
        JoineryFloor x = Due.floor(PLAIN_AND_DRYING, new int[] {0},
            new int[][] {{0, 1, 4}, {0, 0, 3}, {0, 1, 2}, {0, 1, 9}});
        dueBounds("FIRST 4, LAST 11", x, 0, 18, 18);
        JoineryFloor y = Due.floor(new int[][] {{0, 0}}, new int[] {0}, new int[][] {{0, 0, 3}});
        dueBounds("FIRST 0, LAST 0", y, 0, 3, 3);
    }

    private static void boundOfKinds() {
        for (int kind = 0; kind < 4; kind++) {
            JoineryFloor x = Due.floor(new int[][] {{kind, 1}}, new int[] {0}, new int[0][]);
            for (int what = 0; what < 2; what++) {
                Due.due("25: no steps, kind " + kind, x.bound(0, what), kind == 0 ? 0 : Due.NOT);
            }
            x.step(0, 0, 4);
            for (int what = 0; what < 2; what++) {
                Due.due("25: kind " + kind, x.bound(0, what), kind == 0 ? 4 : Due.NOT);
            }
        }
    }

    private static void boundOfManySteps() {
        JoineryFloor x = Due.floor(PLAIN_AND_DRYING, new int[] {0, 0, 0, 0}, new int[0][]);
        for (int s = 0; s < 32; s++) {
            x.step(s / 8, 0, 1);
            boolean few = s < 8;
            Due.due("25: CUT of " + (s + 1), x.bound(0, 0) >= s + 1 ? 1 : 0, 1);
            Due.due("25: WHOLE of " + (s + 1), x.bound(0, 1), few ? s + 1 : Due.NOT);
        }
        Due.due("25: CUT of 32", x.bound(0, 0), 32);
    }

    /** The second piece is there at 2: it is worked on at once if its LAST is greater, not if it is like. */
    private static void cutWhenAnotherComes() {
        JoineryFloor greater = Due.floor(PLAIN_AND_DRYING, new int[] {0, 0},
            new int[][] {{0, 0, 6}, {1, 1, 2}, {1, 0, 2}, {1, 1, 9}});
        dueBounds("a greater LAST comes", greater, 0, 13, 13);
        JoineryFloor lesser = Due.floor(PLAIN_AND_DRYING, new int[] {0, 0},
            new int[][] {{0, 0, 6}, {0, 1, 9}, {1, 1, 2}, {1, 0, 2}, {1, 1, 3}});
        dueBounds("a lesser LAST comes", lesser, 0, 15, 15);
        JoineryFloor like = Due.floor(PLAIN_AND_DRYING, new int[] {0, 0},
            new int[][] {{0, 0, 6}, {0, 1, 3}, {1, 1, 2}, {1, 0, 2}, {1, 1, 3}});
        dueBounds("a like LAST comes", like, 0, 11, 11);
        JoineryFloor atEnd = Due.floor(PLAIN_AND_DRYING, new int[] {0, 0},
            new int[][] {{0, 0, 2}, {1, 1, 2}, {1, 0, 3}});
        dueBounds("there when the other is done", atEnd, 0, 5, 5);
    }

    /** Each of eight is left when the next comes, at 1, 2, .. 8; they are taken up again backwards from 11 on. */
    private static void cutWhenManyCome() {
        JoineryFloor x = Due.floor(PLAIN_AND_DRYING, new int[8], new int[0][]);
        for (int p = 0; p < 8; p++) {
            x.step(p, 1, 1 + p);
            x.step(p, 0, 3);
            x.step(p, 1, 10 + p);
        }
        Due.due("25: CUT of eight, each left once", x.bound(0, 0), 35);
    }

    private static void cutStandsStill() {
        JoineryFloor x = Due.floor(PLAIN_AND_DRYING, new int[] {0, 0, 0},
            new int[][] {{0, 1, 20}, {0, 0, 1}, {0, 1, 4}, {1, 1, 5}, {1, 0, 2}, {2, 1, 9}, {2, 0, 3}});
        dueBounds("nothing to do from 7 to 9 and from 12 to 20", x, 0, 25, 25);
    }

    /** The piece of the least number is the one that comes last. */
    private static void cutWaitsForTheFirst() {
        JoineryFloor x = Due.floor(PLAIN_AND_DRYING, new int[] {0, 0},
            new int[][] {{0, 1, 9}, {0, 0, 2}, {0, 1, 5}, {1, 1, 4}, {1, 0, 8}, {1, 1, 1}});
        dueBounds("left at 9", x, 0, 16, 19);
        JoineryFloor y = Due.floor(PLAIN_AND_DRYING, new int[] {0, 0, 0}, new int[][] {{0, 1, 12}, {0, 0, 1}, {0, 1, 9},
            {1, 1, 4}, {1, 0, 3}, {1, 1, 6}, {2, 0, 10}});
        dueBounds("left at 4 and at 12", y, 0, 22, 22);
    }

    /** Against the piece's own order too: WHOLE is of one machine alone. */
    private static void wholeOfAllOrders() {
        JoineryFloor x = Due.floor(new int[][] {{0, 0}}, new int[] {0}, new int[][] {{0, 0, 3}, {0, 0, 4}, {0, 0, 5}});
        dueBounds("a piece of three on one machine", x, 0, 12, 12);
        JoineryFloor y = Due.floor(PLAIN_AND_DRYING, new int[] {0, 0},
            new int[][] {{0, 0, 5}, {0, 1, 4}, {1, 1, 2}, {1, 0, 2}, {1, 1, 6}});
        dueBounds("CUT is below WHOLE", y, 0, 11, 13);
        JoineryFloor first = Due.floor(PLAIN_AND_DRYING, new int[] {0, 0},
            new int[][] {{0, 0, 5}, {0, 1, 4}, {1, 1, 2}, {1, 0, 2}, {1, 1, 5}});
        dueBounds("12 by number, 13 the other way", first, 0, 11, 12);
        JoineryFloor second = Due.floor(PLAIN_AND_DRYING, new int[] {0, 0},
            new int[][] {{1, 1, 2}, {1, 0, 2}, {1, 1, 5}, {0, 0, 5}, {0, 1, 4}});
        dueBounds("13 by number, 12 the other way", second, 0, 11, 12);
        Due.due("25: whatever the order", y.swap(0, 0), 1);
        dueBounds("CUT is below WHOLE", y, 0, 11, 13);
    }

    private static void boundsOfLongSpans() {
        JoineryFloor x = Due.floor(new int[][] {{0, 0}}, new int[] {0}, new int[0][]);
        for (int s = 0; s < 8; s++) x.step(0, 0, 1000);
        dueBounds("eight of 1000", x, 0, 8000, 8000);
    }

    private static void foundAheadOfAny() {
        Due.dueFound("27: a new object", new JoineryFloor(), 0, 0, 0);
        JoineryFloor x = Due.crossing();
        x.windows(11);
        x.rule(0);
        x.better(5);
        Due.dueFound("27: ahead of any", x, 0, 0, 0);
        JoineryFloor y = new JoineryFloor();
        y.least(5);
        Due.dueFound("27: one that was refused", y, 0, 0, 0);
    }

    private static void foundOfRefused() {
        JoineryFloor x = Due.crossing();
        x.least(5);
        Due.dueFound("27: the latest", x, 7, 1, 1);
        for (int n : new int[] {-1, 101}) {
            Due.due("26: refused", x.least(n), Due.OUTSIDE);
            Due.dueFound("27: the latest that was not refused", x, 7, 1, 1);
        }
        Due.due("26: 0 is not refused", x.least(0), 0);
        Due.dueFound("27: the latest", x, 7, 0, 0);
    }

    private static JoineryFloor manyCases() {
        return Due.floor(TWO_PLAIN, new int[5], new int[][] {{0, 0, 6}, {0, 1, 1}, {1, 0, 2}, {1, 1, 6}, {2, 1, 2},
            {2, 0, 1}, {3, 1, 3}, {3, 0, 3}, {4, 1, 2}, {4, 0, 1}});
    }

    /** It takes 99 cases: 99 and 100 are enough, 98 are not. */
    private static void casesMoreThanTold() {
        for (int n = 97; n < 101; n++) {
            JoineryFloor x = manyCases();
            Due.due("26: 99 cases, told " + n, x.least(n), n < 99 ? 0 : 1);
            Due.due("27: 99 cases, told " + n, x.found(1), Math.min(n, 99));
            Due.due("26: BEST is the END", x.found(0), x.end());
        }
        JoineryFloor x = manyCases();
        Due.due("26: END", x.end(), 23);
        x.least(100);
        Due.dueFound("27: 99 cases", x, 14, 99, 8);
        Due.due("26: the least day again", x.least(100), 1);
        Due.due("27: nothing less", x.found(0), 14);
        Due.due("27: nothing less", x.found(2), 0);
    }

    /** It would take 101 cases. */
    private static void casesMoreThanAHundred() {
        JoineryFloor x = Due.floor(TWO_PLAIN, new int[5], new int[][] {{0, 1, 6}, {0, 0, 2}, {1, 1, 1}, {1, 0, 1},
            {2, 1, 3}, {2, 0, 7}, {3, 1, 1}, {3, 0, 1}, {4, 1, 1}, {4, 0, 1}});
        Due.due("26: END", x.end(), 19);
        Due.due("26: one case too many", x.least(100), 0);
        Due.dueFound("27: 100 cases", x, 15, 100, 1);
        Due.due("26: THE ORDERS are those found last", x.end(), 15);
    }

    private static void casesFromRing() {
        JoineryFloor x = Due.ring();
        Due.due("26: no case", x.least(0), 0);
        Due.dueFound("27: the sum of all SPANS and 1", x, 12, 0, 0);
        Due.due("26: still a ring", x.end(), Due.NONE);
        JoineryFloor y = Due.floor(TWO_PLAIN, new int[] {0}, new int[][] {{0, 0, 4}, {0, 0, 5}});
        y.lay(1, 0);
        Due.due("26: a day as long as the sum is found", y.least(100), 1);
        Due.due("27: the sum", y.found(0), 9);
        Due.due("27: once", y.found(2), 1);
        Due.due("26: a day", y.end(), 9);
    }

    private static void nothingIsFoundAsLong() {
        JoineryFloor x = Due.floor(new int[][] {{0, 0}}, new int[] {0, 0}, new int[][] {{0, 0, 4}, {1, 0, 5}});
        x.swap(0, 0);
        Due.due("26: all orders are as long", x.least(100), 1);
        Due.dueFound("27: all orders are as long", x, 9, 1, 0);
        Due.dueOrder("26: as they were", x, 1, 0);
    }

    private static void ordersAsTheyWere() {
        JoineryFloor x = manyCases();
        x.rule(1);
        int end = x.end();
        int[] places = new int[10];
        for (int s = 0; s < 10; s++) places[s] = x.told(s, 4);
        Due.due("26: no case", x.least(0), 0);
        for (int s = 0; s < 10; s++) Due.due("26: none were found", x.told(s, 4), places[s]);
        Due.due("26: END", x.end(), end);
        Due.due("27: BEST", x.found(0), end);
    }

    /** A search that ended early leaves nothing told for the next one. */
    private static void nothingIsToldInTheFirst() {
        for (int n = 0; n < 40; n += 3) {
            JoineryFloor x = manyCases();
            x.least(n);
            JoineryFloor y = manyCases();
            // from the first place on, so that each stays where it is laid
            for (int place = 0; place < 5; place++) {
                for (int s = 0; s < 10; s++) if (x.told(s, 4) == place) y.lay(s, place);
            }
            for (int s = 0; s < 10; s++) Due.due("26: the same orders", y.told(s, 4), x.told(s, 4));
            Due.due("26: behind " + n + " cases", x.least(100), y.least(100));
            for (int what = 0; what < 3; what++) Due.due("27: behind " + n + " cases", x.found(what), y.found(what));
        }
    }

    private static void leastWithoutSteps() {
        Due.due("26: a new object", new JoineryFloor().least(0), Due.NOT);
        JoineryFloor x = Due.floor(TWO_PLAIN, new int[] {0}, new int[0][]);
        Due.due("26: no steps", x.least(100), Due.NOT);
    }

    private static void leastOfOneStep() {
        for (int span : new int[] {1, 1000}) {
            JoineryFloor x = Due.floor(TWO_PLAIN, new int[] {0}, new int[][] {{0, 0, span}});
            Due.due("26: no case", x.least(0), 0);
            Due.dueFound("27: no case", x, span, 0, 0);
            Due.due("26: one case", x.least(1), 1);
            Due.dueFound("27: one case", x, span, 1, 0);
        }
    }

    private static void leastOfDrying() {
        JoineryFloor x = Due.floor(new int[][] {{1, 0}}, new int[] {0, 0},
            new int[][] {{0, 0, 5}, {1, 0, 7}, {0, 0, 1}});
        Due.due("26: DRYING alone", x.least(1), 1);
        Due.dueFound("27: DRYING alone", x, 7, 1, 0);
    }

    /** The crossing of two pieces, on the last two of eight machines. */
    private static void leastOfEightMachines() {
        JoineryFloor x = Due.floor(new int[8][2], new int[] {0, 0},
            new int[][] {{0, 6, 3}, {0, 7, 2}, {1, 7, 2}, {1, 6, 4}});
        Due.due("26: eight machines", x.least(100), 1);
        Due.dueFound("27: eight machines", x, 7, 1, 1);
        Due.dueOrder("26: the last machine", x, 2, 1);
    }
}
