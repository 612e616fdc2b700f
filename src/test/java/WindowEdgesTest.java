/** The boundary cases of section 4, and of the promises 22 to 24 on windows. */
public final class WindowEdgesTest {
    private static final int[][] PLAIN_AND_DRYING = {{0, 0}, {1, 0}};
    private static final int[][] TWO_PLAIN_AND_DRYING = {{0, 0}, {0, 0}, {1, 0}};

    public static void main(String[] args) {
        bounds();
        withoutSteps();
        pieceJustFits();
        lookBehindPieces();
        lookBehindPiecesComesFirst();
        lookBehindPairs();
        pairJustFits();
        pairOfWhichNoneCan();
        pairThatBurstsEndsIt();
        pairsOnDryingMachines();
        setJustFits();
        setThatBurstsEndsIt();
        headMovesWhenAbove();
        deadMovesWhenAbove();
        lesserHead();
        greaterDead();
        headOfFAsItWas();
        deadOfGAsItWas();
        toldPairIsChange();
        pairToldAlready();
        twentyRounds();
        aheadOfAny();
        stepsThatCameSince();
        latestNotRefused();
        ahead32();
        behind32();
        Due.finish();
    }

    private static void bounds() {
        JoineryFloor x = Due.floor(new int[][] {{1, 0}}, new int[] {0}, new int[][] {{0, 0, 1}});
        Due.due("22: T -1", x.windows(-1), Due.OUTSIDE);
        Due.due("22: T 0", x.windows(0), 0);
        Due.dueWindow("23: T 0", x, 0, 0, 0, 0);
        Due.due("22: T 1", x.windows(1), 1);
        Due.due("22: T 100000", x.windows(100000), 1);
        Due.dueWindow("23: T 100000", x, 0, 0, 100000, 0);
        Due.due("22: T 100001", x.windows(100001), Due.OUTSIDE);
        Due.dueWindow("23: the latest that was not refused", x, 0, 0, 100000, 0);
    }

    private static void withoutSteps() {
        for (int t : new int[] {0, 100000}) {
            Due.due("22: a new object", new JoineryFloor().windows(t), 1);
            JoineryFloor x = Due.floor(new int[][] {{0, 0}, {2, 3}, {3, 2}}, new int[] {0}, new int[0][]);
            Due.due("22: no steps", x.windows(t), 1);
        }
    }

    private static void pieceJustFits() {
        for (int t = 8; t < 11; t++) {
            JoineryFloor x = Due.floor(new int[][] {{1, 0}}, new int[] {0},
                new int[][] {{0, 0, 2}, {0, 0, 3}, {0, 0, 4}});
            Due.due("22: spans of 9 in " + t, x.windows(t), t < 9 ? 0 : 1);
            Due.dueWindow("23: spans of 9 in " + t, x, 1, 2, t - 4, 0);
        }
    }

    /** Steps 0 and 2 are a pair of which 2 is told AHEAD, but for step 4, which is too long by 1 and bursts first. */
    private static void lookBehindPieces() {
        for (int longest = 16; longest < 18; longest++) {
            JoineryFloor x = Due.floor(PLAIN_AND_DRYING, new int[] {0, 0, 0},
                new int[][] {{0, 0, 5}, {0, 1, 4}, {1, 0, 3}, {1, 1, 9}, {2, 1, longest}});
            Due.due("22: a step of " + longest + " in 16", x.windows(16), longest == 16 ? 1 : 0);
            Due.due("24: a step of " + longest + " in 16", x.must(0, 2), longest == 16 ? 2 : 0);
            Due.due("23: HEAD of 0", x.window(0, 0), longest == 16 ? 3 : 0);
        }
    }

    /** In the second round step 2 is too narrow behind (a), so that (b) does not move 1 and 0 any more. */
    private static void lookBehindPiecesComesFirst() {
        JoineryFloor x = Due.floor(TWO_PLAIN_AND_DRYING, new int[] {0, 0},
            new int[][] {{0, 0, 6}, {0, 1, 2}, {1, 0, 1}, {1, 1, 1}});
        Due.due("22: burst behind (a)", x.windows(8), 0);
        Due.dueWindow("23: not moved by (b)", x, 0, 0, 6, 1);
        Due.dueWindow("23: not moved by (b)", x, 1, 6, 8, 0);
        Due.dueWindow("23: too narrow", x, 2, 6, 5, 0);
        Due.dueWindow("23: moved by (a)", x, 3, 7, 6, 1);
    }

    /** Step 3 is too narrow behind (b), so that (c) does not tell 2 ahead of 4 any more. */
    private static void lookBehindPairs() {
        JoineryFloor x = Due.floor(TWO_PLAIN_AND_DRYING, new int[] {0, 0},
            new int[][] {{0, 0, 6}, {0, 1, 8}, {1, 1, 1}, {1, 0, 2}, {1, 1, 3}});
        Due.due("22: burst behind (b)", x.windows(16), 0);
        Due.dueWindow("23: too narrow", x, 3, 6, 5, 0);
        Due.due("24: not told by (c)", x.must(2, 4), 0);
        Due.due("24: told ahead of it", x.must(0, 3), 1);
        Due.due("24: told ahead of it", x.must(1, 2), 2);
        Due.due("24: told ahead of it", x.must(1, 4), 2);
    }

    /** Step 0 ahead of step 2 needs HEAD 0 and both SPANS, 8, to be no more than DEAD of 2, T less 9. */
    private static void pairJustFits() {
        for (int t = 15; t < 19; t++) {
            JoineryFloor x = Due.floor(PLAIN_AND_DRYING, new int[] {0, 0},
                new int[][] {{0, 0, 5}, {0, 1, 4}, {1, 0, 3}, {1, 1, 9}});
            Due.due("22: T " + t, x.windows(t), 1);
            Due.due("24: f cannot, T " + t, x.must(0, 2), t < 17 ? 2 : 0);
            JoineryFloor y = Due.floor(PLAIN_AND_DRYING, new int[] {0, 0},
                new int[][] {{0, 0, 3}, {0, 1, 9}, {1, 0, 5}, {1, 1, 4}});
            Due.due("22: T " + t, y.windows(t), 1);
            Due.due("24: g cannot, T " + t, y.must(0, 2), t < 17 ? 1 : 0);
        }
    }

    private static void pairOfWhichNoneCan() {
        for (int t = 7; t < 10; t++) {
            JoineryFloor x = Due.floor(new int[][] {{0, 0}}, new int[] {0, 0}, new int[][] {{0, 0, 5}, {1, 0, 3}});
            Due.due("22: 8 in " + t, x.windows(t), t < 8 ? 0 : 1);
            Due.due("24: 8 in " + t, x.must(0, 1), 0);
        }
        // 0 is told ahead of 1; then neither of 0 and 2 can be: nothing else is done, so that (d) moves no HEAD
        JoineryFloor y = Due.floor(new int[][] {{0, 0}}, new int[] {0, 0},
            new int[][] {{0, 0, 1}, {0, 0, 1}, {1, 0, 2}});
        Due.due("22: both cannot", y.windows(2), 0);
        Due.due("24: told ahead of it", y.must(0, 1), 1);
        Due.dueWindow("23: not moved", y, 2, 0, 2, 0);
    }

    /** A pair that is told one way on one machine, one of which neither can be on the other, in both orders. */
    private static void pairThatBurstsEndsIt() {
        for (int told = 0; told < 2; told++) {
            int bursts = 1 - told;
            JoineryFloor x = Due.floor(TWO_PLAIN_AND_DRYING, new int[] {0, 0, 0, 0},
                new int[][] {{0, told, 5}, {0, 2, 4}, {1, told, 3}, {1, 2, 9}, {2, bursts, 9}, {3, bursts, 8}});
            Due.due("22: 17 in 16", x.windows(16), 0);
            Due.due("24: MACHINES by number", x.must(0, 2), told == 0 ? 2 : 0);
            Due.due("24: neither can", x.must(4, 5), 0);
        }
        // on one machine, by f, then g: 0 and 1 burst, ahead of 0 and 2, or of 1 and 2
        JoineryFloor y = Due.floor(PLAIN_AND_DRYING, new int[] {0, 0, 0},
            new int[][] {{0, 0, 9}, {1, 0, 8}, {2, 0, 1}, {2, 1, 9}});
        Due.due("22: 17 in 16", y.windows(16), 0);
        for (int s = 0; s < 4; s++) Due.due("23: nothing is told", y.window(s, 2), 0);
    }

    private static void pairsOnDryingMachines() {
        JoineryFloor x = Due.floor(new int[][] {{1, 0}}, new int[] {0, 0, 0},
            new int[][] {{0, 0, 9}, {1, 0, 8}, {2, 0, 7}});
        Due.due("22: any number at once", x.windows(9), 1);
        for (int s = 0; s < 3; s++) Due.dueWindow("23: not moved", x, s, 0, 9, 0);
        Due.due("24: never told", x.must(0, 1), 0);
        Due.due("22: one is too long", x.windows(8), 0);
    }

    private static void setJustFits() {
        for (int t = 11; t < 14; t++) {
            JoineryFloor x = Due.floor(new int[][] {{0, 0}}, new int[] {0, 0, 0},
                new int[][] {{0, 0, 5}, {1, 0, 4}, {2, 0, 3}});
            Due.due("22: a set of 12 in " + t, x.windows(t), t < 12 ? 0 : 1);
            for (int s = 0; s < 3; s++) Due.dueWindow("23: a set of 12 in " + t, x, s, 0, t, 0);
        }
        // with 2 ahead of each and 3 behind it, so that HEADS are 2 and DEADS T less 3
        for (int t = 15; t < 19; t++) {
            JoineryFloor x = Due.floor(PLAIN_AND_DRYING, new int[] {0, 0, 0}, new int[][] {{0, 1, 2}, {0, 0, 4},
                {0, 1, 3}, {1, 1, 2}, {1, 0, 4}, {1, 1, 3}, {2, 1, 2}, {2, 0, 4}, {2, 1, 3}});
            Due.due("22: a set of 12 from 2 to " + (t - 3), x.windows(t), t < 17 ? 0 : 1);
            for (int s = 1; s < 9; s += 3) Due.dueWindow("23: a set of 12 from 2", x, s, 2, t - 3, 0);
        }
    }

    /** The set of all three bursts as the first pair of all; else step 0 would be moved behind step 1. */
    private static void setThatBurstsEndsIt() {
        JoineryFloor x = Due.floor(new int[][] {{0, 0}}, new int[] {0, 0},
            new int[][] {{0, 0, 1}, {1, 0, 1}, {1, 0, 1}});
        Due.due("22: a set of 3 in 2", x.windows(2), 0);
        Due.dueWindow("23: not moved", x, 0, 0, 2, 1);
        Due.dueWindow("23: not moved", x, 1, 0, 1, 2);
        Due.dueWindow("23: not moved", x, 2, 1, 2, 0);
    }

    /**
     * Steps 1 and 4, 3 each, have machine 0 from 2 to T less 4; step k, of a SPAN, with drying of its own ahead of it
     * and behind it, is step 6 or 7.
     */
    private static JoineryFloor aboutSet(int ahead, int span, int behind) {
        JoineryFloor x = Due.floor(PLAIN_AND_DRYING, new int[] {0, 0, 0},
            new int[][] {{0, 1, 2}, {0, 0, 3}, {0, 1, 4}, {1, 1, 2}, {1, 0, 3}, {1, 1, 4}});
        if (ahead > 0) x.step(2, 1, ahead);
        x.step(2, 0, span);
        if (behind > 0) x.step(2, 1, behind);
        return x;
    }

    /** The set fills 2 to 8: k of SPAN 2 can be done ahead of it, with 0 and 6 and 2 not above 8; one of 3 cannot. */
    private static void headMovesWhenAbove() {
        for (int span = 1; span < 5; span++) {
            JoineryFloor x = aboutSet(0, span, 0);
            Due.due("22: k of " + span, x.windows(12), 1);
            Due.dueWindow("23: k of " + span, x, 6, span > 2 ? 8 : 0, 12, 0);
            Due.due("24: k of " + span, x.must(1, 6), span > 2 ? 1 : 0);
        }
    }

    /** The set fills 2 to 8: k of SPAN 2 can be done behind it, with 2 and 6 and 2 not above its DEAD, down to 10. */
    private static void deadMovesWhenAbove() {
        for (int behind = 1; behind < 5; behind++) {
            JoineryFloor x = aboutSet(0, 2, behind);
            Due.due("22: " + behind + " behind k", x.windows(12), 1);
            Due.dueWindow("23: " + behind + " behind k", x, 6, 0, behind > 2 ? 2 : 12 - behind, behind > 2 ? 2 : 0);
            Due.due("24: " + behind + " behind k", x.must(6, 4), behind > 2 ? 1 : 0);
        }
    }

    /** HEAD of k is 5, that of f 2: it is 2 that counts. The set has 2 to 9. */
    private static void lesserHead() {
        for (int span = 1; span < 3; span++) {
            JoineryFloor x = aboutSet(5, span, 0);
            Due.due("22: HEAD 5, SPAN " + span, x.windows(13), 1);
            Due.due("23: HEAD 5, SPAN " + span, x.window(7, 0), span == 1 ? 5 : 8);
        }
    }

    /** DEAD of k is 7, that of g 9: it is 9 that counts. The set has 2 to 9. */
    private static void greaterDead() {
        for (int span = 1; span < 3; span++) {
            JoineryFloor x = aboutSet(0, span, 6);
            Due.due("22: DEAD 7, SPAN " + span, x.windows(13), 1);
            Due.due("23: DEAD 7, SPAN " + span, x.window(6, 1), span == 1 ? 7 : 3);
        }
    }

    /** With f = 0, g = 1 step 0 itself is moved to 1; HEAD of f is 0 for step 2 all the same. */
    private static void headOfFAsItWas() {
        JoineryFloor x = Due.floor(PLAIN_AND_DRYING, new int[] {0, 0},
            new int[][] {{0, 0, 1}, {1, 0, 1}, {1, 0, 1}, {1, 1, 1}});
        Due.due("22: HEAD of f", x.windows(3), 1);
        Due.dueWindow("23: HEAD of f", x, 0, 2, 3, 0);
        Due.dueWindow("23: HEAD of f", x, 1, 0, 1, 2);
        Due.dueWindow("23: HEAD of f", x, 2, 1, 2, 1);
    }

    /** With f = 2, g = 0 step 0 itself is moved down to 4; DEAD of g is 5 for step 3 all the same. */
    private static void deadOfGAsItWas() {
        JoineryFloor x = Due.floor(PLAIN_AND_DRYING, new int[] {0, 0, 0},
            new int[][] {{0, 0, 1}, {1, 1, 4}, {1, 0, 1}, {2, 0, 1}});
        Due.due("22: DEAD of g", x.windows(5), 1);
        Due.dueWindow("23: DEAD of g", x, 0, 0, 4, 1);
        Due.dueWindow("23: DEAD of g", x, 2, 4, 5, 0);
        Due.dueWindow("23: DEAD of g", x, 3, 0, 4, 1);
    }

    /** A round that tells 1 ahead of 3 and moves nothing is followed by one that moves DEAD of 1 from 12 to 10. */
    private static void toldPairIsChange() {
        JoineryFloor x = Due.floor(PLAIN_AND_DRYING, new int[] {0, 0},
            new int[][] {{0, 0, 6}, {0, 0, 2}, {0, 1, 3}, {1, 0, 5}});
        Due.due("22: one round more", x.windows(15), 1);
        Due.dueWindow("23: one round more", x, 0, 0, 8, 2);
        Due.dueWindow("23: one round more", x, 1, 6, 10, 1);
        Due.dueWindow("23: one round more", x, 3, 8, 15, 0);
    }

    /** Two machines, windows that get narrower by little from round to round: one bursts in round 20, one in 21. */
    private static void twentyRounds() {
        int[][] inTwenty = {{3, 0, 4}, {3, 1, 10}, {0, 1, 16}, {3, 0, 3}, {2, 0, 15}, {3, 1, 7}, {2, 1, 1}, {2, 0, 2},
            {1, 0, 2}, {1, 0, 17}, {1, 1, 6}, {1, 0, 3}, {0, 0, 21}, {2, 1, 22}, {0, 1, 1}, {0, 1, 2}, {0, 1, 14},
            {1, 1, 16}};
        int[][] inOneMore = {{3, 0, 4}, {3, 1, 13}, {0, 1, 15}, {0, 0, 11}, {3, 0, 11}, {2, 0, 14}, {3, 1, 12},
            {2, 1, 1}, {1, 0, 5}, {1, 0, 15}, {1, 1, 14}, {2, 0, 2}, {1, 0, 4}, {0, 0, 11}, {2, 1, 12}, {0, 1, 12},
            {1, 1, 14}};
        dueAsModel("22: burst in round 20", inTwenty, 96, 0);
        dueAsModel("22: burst would come in round 21", inOneMore, 94, 1);
    }

    /** In round 4 neither 2 nor 10 can be ahead any more; 2 is told ahead already, so (c) passes by, and (d) bursts. */
    private static void pairToldAlready() {
        JoineryFloor x = Due.floor(PLAIN_AND_DRYING, new int[] {0, 0, 0},
            new int[][] {{0, 0, 1}, {0, 1, 3}, {0, 0, 3}, {0, 1, 3}, {0, 0, 3}, {1, 1, 3}, {1, 0, 3}, {1, 1, 1},
                {1, 0, 1}, {1, 1, 2}, {1, 0, 2}, {1, 1, 6}, {2, 0, 4}, {2, 0, 2}, {2, 1, 1}, {2, 0, 1}, {2, 1, 2}});
        Due.due("22: told already", x.windows(21), 0);
        Due.dueWindow("23: told already", x, 2, 10, 13, 4);
        Due.dueWindow("23: told already", x, 10, 13, 10, 3);
        Due.due("24: told already", x.must(10, 2), 2);
    }

    private static void dueAsModel(String what, int[][] steps, int t, int want) {
        Pair pair = new Pair();
        for (int m = 0; m < 2; m++) pair.call("machine", 0, 0);
        for (int p = 0; p < 4; p++) pair.call("piece", 0);
        for (int[] s : steps) pair.call("step", s);
        Due.due(what, pair.call("windows", t), want);
        pair.askWindows();
        Due.due(what + ", as the model has it", pair.wrong, 0);
    }

    private static void aheadOfAny() {
        JoineryFloor x = Due.crossing();
        for (int s = 0; s < 4; s++) {
            for (int what = 0; what < 3; what++) Due.due("23: ahead of any", x.window(s, what), Due.NONE);
            for (int o = 0; o < 4; o++) Due.due("24: ahead of any", x.must(s, o), 0);
        }
        x.least(5);
        for (int s = 0; s < 4; s++) {
            for (int what = 0; what < 3; what++) Due.due("23: least() is none", x.window(s, what), Due.NONE);
            for (int o = 0; o < 4; o++) Due.due("24: least() is none", x.must(s, o), 0);
        }
    }

    private static void stepsThatCameSince() {
        JoineryFloor x = Due.floor(new int[][] {{0, 0}}, new int[] {0, 0}, new int[0][]);
        x.windows(9);
        x.step(0, 0, 4);
        for (int what = 0; what < 3; what++) Due.due("23: windows() of no steps", x.window(0, what), Due.NONE);
        x.windows(9);
        Due.dueWindow("23: asked anew", x, 0, 0, 9, 0);
        x.step(0, 0, 2);
        x.step(1, 0, 3);
        for (int s = 1; s < 3; s++) {
            for (int what = 0; what < 3; what++) Due.due("23: came since", x.window(s, what), Due.NONE);
            for (int o = 0; o < 3; o++) Due.due("24: came since", x.must(s, o), 0);
            Due.due("24: came since", x.must(0, s), 0);
        }
        Due.dueWindow("23: was there", x, 0, 0, 9, 0);
        Due.due("22: with all", x.windows(9), 1);
        Due.due("24: asked anew", x.must(0, 1), 1);
    }

    private static void latestNotRefused() {
        JoineryFloor x = Due.floor(new int[][] {{0, 0}}, new int[] {0, 0},
            new int[][] {{0, 0, 2}, {1, 0, 3}, {1, 0, 3}});
        Due.due("22: open", x.windows(8), 1);
        Due.due("22: burst is not refused", x.windows(7), 0);
        Due.dueWindow("23: the one that burst", x, 0, 0, 7, 1);
        Due.due("22: refused", x.windows(-1), Due.OUTSIDE);
        Due.dueWindow("23: the one that burst", x, 0, 0, 7, 1);
        Due.due("22: open again", x.windows(8), 1);
        Due.dueWindow("23: the latest", x, 0, 0, 8, 0);
    }

    /** Of 32 steps 29 are on one machine: all of the first piece go ahead of all others, for these are late. */
    private static void ahead32() {
        JoineryFloor x = Due.floor(PLAIN_AND_DRYING, new int[] {0, 0, 0, 0}, new int[0][]);
        for (int k = 0; k < 8; k++) x.step(0, 0, 1);
        for (int p = 1; p < 4; p++) {
            for (int k = 0; k < 8; k++) x.step(p, k == 0 ? 1 : 0, k == 0 ? 8 : 1);
        }
        Due.due("22: 29 on one machine", x.windows(29), 1);
        Due.due("23: 29 on one machine", x.window(0, 2) >= 21 ? 1 : 0, 1);
        Due.due("24: the first and the last", x.must(0, 31), 1);
        Due.due("24: the last and the first", x.must(31, 0), 2);
    }

    /** Of 32 steps 27 fill 0 to 27, as 30 is to be done behind them: step 0, which could be at 0, goes behind all. */
    private static void behind32() {
        JoineryFloor x = Due.floor(PLAIN_AND_DRYING, new int[] {0, 0, 0, 0, 0}, new int[][] {{0, 0, 5}});
        for (int p = 1; p < 5; p++) {
            int steps = p == 4 ? 7 : 8;
            for (int k = 1; k <= steps; k++) x.step(p, k == steps ? 1 : 0, k == steps ? 30 : 1);
        }
        Due.due("22: 32 steps", x.count(2), 32);
        Due.due("22: 27 fill it", x.windows(57), 1);
        Due.dueWindow("23: behind all", x, 0, 27, 57, 0);
        for (int s = 1; s < 32; s++) Due.due("24: ahead of 0, step " + s, x.must(0, s), x.told(s, 1) == 0 ? 2 : 0);
        Due.due("22: one less", x.windows(56), 0);
    }
}
