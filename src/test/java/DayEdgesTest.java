/** The boundary cases of section 3, and of the promises 14 to 21 on days. */
public final class DayEdgesTest {
    private static final int[][] PLAINS = {{0, 0}, {0, 0}, {1, 0}};

    public static void main(String[] args) {
        for (int kind = 0; kind < 4; kind++) {
            stepComesLast(kind);
            beginsAtZero(kind);
            ringOfOnePiece(kind);
            swapPlaces(kind);
            layPlaces(kind);
        }
        endWithoutSteps();
        ringOfTwoMachines();
        ringOfManySteps();
        plainFollowsAtOnce();
        dryingTakesAll();
        for (int gap : new int[] {0, 1, 100}) gapBetweenUnlikeSorts(gap);
        gapIsNoMoreThanWaited();
        for (int hands = 1; hands < 5; hands++) handsAtOnce(hands);
        crewKeepsItsOrder();
        handThatEndsIsFree();
        swapInRingIsDone();
        tailIsTheGreaterOne();
        tailOfLast();
        slackOfLast();
        rowWithoutSteps();
        rowBeginsWithLeastNumber();
        rowGoesByOrderWhenPieceHasSlack();
        rowGoesByOrderWhenPieceWaits();
        rowOfAllSteps();
        ruleWithoutSteps();
        ruleEarliestIsFirst();
        ruleOfLikeOnes();
        ruleBySumOfTheRest();
        ruleTakesNoneTwice();
        betterTakesTheFirstOfLikeOnes();
        betterTakesTheLeastEnd();
        betterUpToN();
        betterWithoutSteps();
        Due.finish();
    }

    private static JoineryFloor oneMachine(int kind, int pieces, int steps) {
        int[][] all = new int[steps][];
        for (int s = 0; s < steps; s++) all[s] = new int[] {s % pieces, 0, 2 + s};
        return Due.floor(new int[][] {{kind, 1}}, new int[pieces], all);
    }

    private static void stepComesLast(int kind) {
        JoineryFloor x = oneMachine(kind, 4, 2);
        x.lay(1, 0);
        x.step(2, 0, 5);
        Due.dueOrder("3: comes last behind lay, kind " + kind, x, 1, 0, 2);
        x.rule(0);
        x.step(3, 0, 1);
        Due.due("3: comes last behind rule, kind " + kind, x.told(3, 4), 3);
    }

    private static void beginsAtZero(int kind) {
        JoineryFloor x = oneMachine(kind, 1, 1);
        Due.due("3: not below 0, kind " + kind, x.begin(0), 0);
        Due.due("3: END of one step, kind " + kind, x.end(), 2);
    }

    /** Against the order of its own piece; a DRYING machine's order does not matter. */
    private static void ringOfOnePiece(int kind) {
        JoineryFloor x = oneMachine(kind, 1, 2);
        boolean dries = kind == 1;
        Due.due("15: against its piece, kind " + kind, x.lay(1, 0), dries ? 1 : 0);
        Due.dueOrder("15: done all the same, kind " + kind, x, 1, 0);
        Due.due("16: END, kind " + kind, x.end(), dries ? 5 : Due.NONE);
        Due.due("17: BEGIN, kind " + kind, x.begin(1), dries ? 2 : Due.NOT);
        Due.due("15: back again, kind " + kind, x.lay(1, 1), 1);
        Due.due("16: END, kind " + kind, x.end(), 5);
    }

    private static void swapPlaces(int kind) {
        for (int steps = 0; steps < 5; steps++) {
            for (int i = -1; i <= steps; i++) {
                JoineryFloor x = oneMachine(kind, 8, steps);
                boolean taken = i >= 0 && i + 1 < steps;
                String what = "14: place " + i + " of " + steps + ", kind " + kind;
                Due.due(what, x.swap(0, i), !taken ? Due.OUTSIDE : kind == 1 ? Due.NOT : 1);
                for (int s = 0; s < steps; s++) {
                    int moved = s == i ? 1 : s == i + 1 ? -1 : 0;
                    Due.due(what + ", step " + s, x.told(s, 4), s + (taken && kind != 1 ? moved : 0));
                }
            }
        }
    }

    private static void layPlaces(int kind) {
        for (int steps = 1; steps < 5; steps++) {
            for (int i = -1; i <= steps; i++) {
                JoineryFloor x = oneMachine(kind, 8, steps);
                boolean taken = i >= 0 && i < steps;
                String what = "15: place " + i + " of " + steps + ", kind " + kind;
                Due.due(what, x.lay(0, i), taken ? 1 : Due.OUTSIDE);
                Due.due(what + ", where it is", x.told(0, 4), taken ? i : 0);
                for (int s = 1; s < steps; s++) {
                    Due.due(what + ", step " + s, x.told(s, 4), taken && s <= i ? s - 1 : s);
                }
            }
        }
    }

    private static void endWithoutSteps() {
        JoineryFloor x = Due.floor(new int[][] {{0, 0}, {1, 0}, {2, 9}, {3, 2}}, new int[] {0, 1}, new int[0][]);
        Due.due("16: no steps", x.end(), 0);
        x.step(1, 0, 1);
        Due.due("16: one of SPAN 1", x.end(), 1);
    }

    /** Each of two pieces waits for the other, unless one of the machines is DRYING. */
    private static void ringOfTwoMachines() {
        for (int one = 0; one < 4; one++) {
            for (int two = 0; two < 4; two++) {
                JoineryFloor x = Due.floor(new int[][] {{one, 4}, {two, 4}}, new int[] {0, 0},
                    new int[][] {{0, 0, 3}, {0, 1, 2}, {1, 1, 2}, {1, 0, 4}});
                boolean ring = one != 1 && two != 1;
                String what = "3: kinds " + one + " and " + two;
                Due.due(what, x.lay(3, 0), ring ? 0 : 1);
                Due.due(what, x.end() == Due.NONE ? 1 : 0, ring ? 1 : 0);
            }
        }
    }

    /** Six pieces over six machines, each behind the one before it, and the first behind the last. */
    private static void ringOfManySteps() {
        int[][] machines = new int[6][2];
        int[][] steps = new int[12][];
        for (int p = 0; p < 6; p++) {
            steps[2 * p] = new int[] {p, p, 1};
            steps[2 * p + 1] = new int[] {p, (p + 1) % 6, 1};
        }
        JoineryFloor x = Due.floor(machines, new int[6], steps);
        Due.due("3: no ring yet", x.end() > 0 ? 1 : 0, 1);
        int ring = 1;
        for (int p = 0; p < 6; p++) ring = x.lay(2 * p, 1);
        Due.due("3: each first step waits for another piece's second", ring, 0);
        Due.due("16: a ring of twelve", x.end(), Due.NONE);
        Due.due("14: a swap that breaks it", x.swap(3, 0), 1);
        Due.due("16: a day", x.end() > 0 ? 1 : 0, 1);
        Due.due("14: one that would make it anew", x.swap(3, 0), 0);
        Due.due("16: still a day", x.end() > 0 ? 1 : 0, 1);
    }

    private static void plainFollowsAtOnce() {
        JoineryFloor x = Due.floor(new int[][] {{0, 0}}, new int[] {1, 2}, new int[][] {{0, 0, 4}, {1, 0, 3}});
        Due.dueBegins("3: at its end, whatever the sorts", x, 0, 4);
    }

    private static void dryingTakesAll() {
        int[][] steps = new int[12][];
        for (int p = 0; p < 12; p++) steps[p] = new int[] {p, 0, 1000};
        JoineryFloor x = Due.floor(new int[][] {{1, 0}}, new int[12], steps);
        for (int s = 0; s < 12; s++) Due.due("1: twelve at once", x.begin(s), 0);
        Due.due("1: twelve at once", x.end(), 1000);
    }

    private static void gapBetweenUnlikeSorts(int gap) {
        JoineryFloor x = Due.floor(new int[][] {{2, gap}}, new int[] {0, 0, 9, 0},
            new int[][] {{0, 0, 2}, {1, 0, 3}, {2, 0, 4}, {3, 0, 5}});
        Due.dueBegins("3: GAP " + gap, x, 0, 2, 5 + gap, 9 + 2 * gap);
        Due.due("3: GAP " + gap, x.end(), 14 + 2 * gap);
    }

    /** The piece is there within the GAP, at its end, and behind it. */
    private static void gapIsNoMoreThanWaited() {
        for (int there = 5; there < 12; there++) {
            JoineryFloor x = Due.floor(new int[][] {{2, 6}, {1, 0}}, new int[] {0, 1},
                new int[][] {{0, 0, 3}, {1, 1, there}, {1, 0, 1}});
            Due.due("3: the GAP ends at 9, the piece is there at " + there, x.begin(2), Math.max(9, there));
        }
    }

    private static void handsAtOnce(int hands) {
        int[][] steps = new int[2 * hands + 1][];
        for (int p = 0; p < steps.length; p++) steps[p] = new int[] {p, 0, 5};
        JoineryFloor x = Due.floor(new int[][] {{3, hands}}, new int[steps.length], steps);
        for (int s = 0; s < steps.length; s++) Due.due("1: HANDS " + hands, x.begin(s), s / hands * 5);
    }

    private static void crewKeepsItsOrder() {
        JoineryFloor x = Due.floor(new int[][] {{3, 4}, {1, 0}}, new int[] {0, 0, 0},
            new int[][] {{0, 1, 6}, {0, 0, 1}, {1, 0, 1}, {2, 1, 7}, {2, 0, 1}});
        Due.due("3: not ahead of the BEGIN of the one ahead", x.begin(2), 6);
        Due.due("3: but behind it", x.begin(4), 7);
    }

    /** Two hands, busy to 5 and to 9: the third is there at 4, 5 and 6. */
    private static void handThatEndsIsFree() {
        for (int there = 4; there < 7; there++) {
            JoineryFloor x = Due.floor(new int[][] {{3, 2}, {1, 0}}, new int[] {0, 0, 0},
                new int[][] {{0, 0, 9}, {1, 0, 5}, {2, 1, there}, {2, 0, 1}});
            Due.due("3: a hand is free at 5, the piece is there at " + there, x.begin(3), Math.max(5, there));
        }
    }

    private static void swapInRingIsDone() {
        for (int kind = 0; kind < 4; kind++) {
            JoineryFloor x = Due.floor(new int[][] {{0, 0}, {kind, 1}}, new int[] {0, 1},
                new int[][] {{0, 0, 1}, {0, 0, 2}, {0, 1, 3}, {1, 1, 4}});
            Due.due("14: a ring", x.lay(1, 0), 0);
            Due.due("14: done in a ring, kind " + kind, x.swap(1, 0), kind == 1 ? Due.NOT : 1);
            Due.due("14: it is done, kind " + kind, x.told(2, 4), kind == 1 ? 0 : 1);
        }
    }

    private static void tailIsTheGreaterOne() {
        for (int dry = 3; dry < 6; dry++) {
            JoineryFloor x = Due.floor(new int[][] {{0, 0}, {1, 0}}, new int[] {0, 0},
                new int[][] {{0, 0, 2}, {0, 1, dry}, {1, 0, 4}});
            Due.due("18: 4 in THE ORDER, in the PIECE " + dry, x.tail(0, 0), Math.max(4, dry));
        }
        JoineryFloor y = Due.floor(new int[][] {{1, 0}}, new int[] {0, 0}, new int[][] {{0, 0, 2}, {1, 0, 4}});
        Due.due("18: none behind it on a DRYING machine", y.tail(0, 0), 0);
    }

    private static void tailOfLast() {
        JoineryFloor x = Due.floor(PLAINS, new int[] {0, 0}, new int[][] {{0, 0, 2}, {0, 1, 3}, {1, 0, 4}});
        Due.due("18: none of both", x.tail(1, 0), 0);
        Due.due("18: none of both", x.tail(2, 0), 0);
        Due.due("18: one of both", x.tail(0, 0), 4);
        x.swap(0, 0);
        Due.due("18: one of both, now that it is ahead", x.tail(2, 0), 5);
        Due.due("18: one of both, now that it is last", x.tail(0, 0), 3);
        JoineryFloor y = Due.floor(PLAINS, new int[] {0, 0}, new int[][] {{0, 0, 2}, {1, 0, 4}});
        Due.due("18: the one behind it", y.tail(0, 0), 4);
        y.swap(0, 0);
        Due.due("18: none of both, now that it is last", y.tail(0, 0), 0);
        Due.due("18: the one behind it", y.tail(1, 0), 2);
    }

    private static void slackOfLast() {
        JoineryFloor x = Due.floor(new int[][] {{1, 0}}, new int[] {0, 0, 0},
            new int[][] {{0, 0, 5}, {1, 0, 6}, {2, 0, 1}});
        int[] slacks = {1, 0, 5};
        for (int s = 0; s < 3; s++) Due.due("18: SLACK of " + s, x.tail(s, 1), slacks[s]);
    }

    private static void dueRow(String what, JoineryFloor x, int... steps) {
        for (int i = 0; i < steps.length; i++) Due.due("19: " + what + ", row(" + i + ")", x.row(i), steps[i]);
        for (int i : new int[] {steps.length, 32, Due.HIGHEST, -1, Due.LOWEST}) {
            Due.due("19: " + what + ", row(" + i + ")", x.row(i), Due.NONE);
        }
    }

    private static void rowWithoutSteps() {
        dueRow("a new object", new JoineryFloor());
        dueRow("no steps", Due.floor(PLAINS, new int[] {0}, new int[0][]));
    }

    private static void rowBeginsWithLeastNumber() {
        JoineryFloor x = Due.floor(new int[][] {{1, 0}}, new int[] {0, 0, 0},
            new int[][] {{2, 0, 4}, {1, 0, 5}, {0, 0, 5}});
        dueRow("two with BEGIN 0 and SLACK 0", x, 1);
    }

    private static void rowGoesByOrderWhenPieceHasSlack() {
        JoineryFloor x = Due.floor(PLAINS, new int[] {0, 0}, new int[][] {{0, 0, 2}, {0, 2, 1}, {1, 0, 5}});
        Due.due("19: BEGINS at the end", x.begin(1), 2);
        Due.due("19: but has SLACK", x.tail(1, 1), 4);
        dueRow("by THE ORDER", x, 0, 2);
    }

    private static void rowGoesByOrderWhenPieceWaits() {
        JoineryFloor x = Due.floor(PLAINS, new int[] {0, 0}, new int[][] {{0, 0, 2}, {0, 1, 3}, {1, 0, 4}, {1, 1, 1}});
        x.swap(1, 0);
        Due.dueBegins("19", x, 0, 7, 2, 6);
        Due.due("19: no SLACK, but BEGINS later", x.tail(1, 1), 0);
        dueRow("by THE ORDER", x, 0, 2, 3, 1);
    }

    private static void rowOfAllSteps() {
        int[][] steps = new int[32][];
        int[] row = new int[32];
        for (int s = 0; s < 32; s++) {
            steps[s] = new int[] {s / 8, 0, 1};
            row[s] = s;
        }
        dueRow("32 on one machine", Due.floor(new int[][] {{0, 0}}, new int[4], steps), row);
    }

    private static void ruleWithoutSteps() {
        for (int k = 0; k < 3; k++) {
            Due.due("20: a new object", new JoineryFloor().rule(k), 0);
            Due.due("20: no steps", Due.floor(PLAINS, new int[] {0, 0}, new int[0][]).rule(k), 0);
            JoineryFloor x = Due.floor(PLAINS, new int[] {0, 0, 0}, new int[][] {{1, 0, 4}});
            Due.due("20: pieces without steps", x.rule(k), 4);
        }
    }

    /** Step 3 is shorter than step 1: it goes ahead when it is there earlier or at the same moment, not when later. */
    private static void ruleEarliestIsFirst() {
        for (int dry = 3; dry < 6; dry++) {
            JoineryFloor x = Due.floor(new int[][] {{0, 0}, {1, 0}}, new int[] {0, 0},
                new int[][] {{0, 1, 4}, {0, 0, 9}, {1, 1, dry}, {1, 0, 2}});
            x.rule(0);
            Due.due("20: there at 4 and at " + dry, x.told(3, 4), dry <= 4 ? 0 : 1);
        }
    }

    private static void ruleOfLikeOnes() {
        int[][] steps = {{2, 0, 3}, {1, 0, 3}, {0, 0, 3}};
        for (int k = 0; k < 3; k++) {
            JoineryFloor x = Due.floor(new int[][] {{0, 0}}, new int[] {0, 0, 0}, steps);
            Due.due("20: like ones", x.rule(k), 9);
            Due.dueOrder("20: of the least PIECE, by " + k, x, 2, 1, 0);
        }
        JoineryFloor x = Due.floor(new int[][] {{0, 0}}, new int[] {0, 0}, new int[][] {{0, 0, 4}, {1, 0, 3}});
        x.rule(0);
        Due.dueOrder("20: by 0 the least SPAN", x, 1, 0);
        x.rule(1);
        Due.dueOrder("20: by 1 the greatest sum", x, 0, 1);
        x.rule(2);
        Due.dueOrder("20: by 2 nothing else", x, 0, 1);
    }

    private static void ruleBySumOfTheRest() {
        JoineryFloor x = Due.floor(new int[][] {{0, 0}, {1, 0}}, new int[] {0, 0},
            new int[][] {{0, 0, 1}, {0, 1, 5}, {1, 0, 4}, {1, 1, 3}});
        x.rule(1);
        Due.dueOrder("20: it and those behind it, 7 and 6", x, 2, 0);
        // at 10 steps 1 and 3 may begin: 2 and 3 are left, though of pieces of 12 and 7 in all
        JoineryFloor y = Due.floor(new int[][] {{0, 0}, {1, 0}, {0, 0}}, new int[] {0, 0, 0},
            new int[][] {{0, 1, 10}, {0, 0, 2}, {1, 2, 4}, {1, 0, 3}, {2, 2, 6}, {2, 1, 9}});
        Due.due("20: those ahead of it do not count", y.rule(1), 15);
        Due.dueOrder("20: those ahead of it do not count", y, 3, 1);
    }

    private static void ruleTakesNoneTwice() {
        JoineryFloor x = Due.crossing();
        for (int k = 0; k < 3; k++) {
            for (int again = 0; again < 2; again++) Due.due("20: again, by " + k, x.rule(k), 7);
        }
        Due.dueOrder("20: two steps on machine 0", x, 0, 3);
        Due.dueOrder("20: two steps on machine 1", x, 2, 1);
    }

    private static void betterTakesTheFirstOfLikeOnes() {
        // 0, 1, 2, 3 follow one another from 0 to 6; each of both swaps makes it 5
        JoineryFloor x = Due.floor(PLAINS, new int[] {0, 0, 0},
            new int[][] {{0, 0, 1}, {1, 0, 1}, {1, 1, 3}, {2, 1, 1}});
        Due.due("21: END", x.end(), 6);
        Due.due("21: one", x.better(1), 1);
        Due.dueOrder("21: of the first MACHINE", x, 1, 0);
        Due.dueOrder("21: not of the second", x, 2, 3);
        Due.due("21: END", x.end(), 5);
        // step 1 is there at 1; then 1, 2, 3 follow one another, and 4 dries till 5
        JoineryFloor y = Due.floor(new int[][] {{0, 0}, {1, 0}}, new int[] {0, 0, 0},
            new int[][] {{0, 1, 1}, {0, 0, 1}, {1, 0, 1}, {2, 0, 1}, {2, 1, 1}});
        Due.due("21: END", y.end(), 5);
        Due.due("21: one", y.better(1), 1);
        Due.dueOrder("21: of the first place", y, 2, 1, 3);
        Due.due("21: END", y.end(), 4);
    }

    private static void betterTakesTheLeastEnd() {
        // the swap on machine 0 makes 11 a 10, that on machine 1 makes it 8
        JoineryFloor x = Due.floor(PLAINS, new int[] {0, 0, 0},
            new int[][] {{0, 0, 1}, {1, 0, 2}, {1, 1, 2}, {2, 1, 6}});
        Due.due("21: END", x.end(), 11);
        Due.due("21: one", x.better(1), 1);
        Due.dueOrder("21: not of the first", x, 0, 1);
        Due.dueOrder("21: but the least END", x, 3, 2);
        Due.due("21: END", x.end(), 8);
        // as above, with the lesser one first: what comes behind it does not count any more
        JoineryFloor y = Due.floor(PLAINS, new int[] {0, 0, 0},
            new int[][] {{0, 1, 1}, {1, 1, 2}, {1, 0, 2}, {2, 0, 6}});
        Due.due("21: END", y.end(), 11);
        Due.due("21: one", y.better(1), 1);
        Due.dueOrder("21: the least END, of the first", y, 3, 2);
        Due.dueOrder("21: not of the second", y, 0, 1);
        Due.due("21: END", y.end(), 8);
    }

    private static void betterUpToN() {
        int[] ends = {31, 30, 22, 22};
        for (int n = 0; n < 4; n++) {
            JoineryFloor x = Due.floor(PLAINS, new int[] {0, 0, 0, 0},
                new int[][] {{0, 0, 9}, {1, 0, 2}, {1, 2, 20}, {2, 1, 9}, {3, 1, 2}, {3, 2, 19}});
            Due.due("21: up to " + n, x.better(n), Math.min(n, 2));
            Due.due("21: END", x.end(), ends[n]);
        }
        JoineryFloor x = Due.crossing();
        Due.due("21: 50", x.better(50), 1);
        Due.due("21: 51", x.better(51), Due.OUTSIDE);
    }

    private static void betterWithoutSteps() {
        Due.due("21: a new object", new JoineryFloor().better(50), 0);
        Due.due("21: no steps", Due.floor(PLAINS, new int[] {0}, new int[0][]).better(50), 0);
    }
}
