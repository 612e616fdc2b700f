/** Promises 14 to 21: days. */
public final class DaysTest {
    public static void main(String[] args) {
        swap();
        swapRefusals();
        swapInRing();
        swapOtherKinds();
        lay();
        layRefusals();
        endByPlainAndDrying();
        endBySetting();
        endByCrew();
        begin();
        tail();
        tailRefusals();
        row();
        rowByPieceFirst();
        rule();
        ruleBySetting();
        ruleByCrew();
        ruleLeavesRing();
        better();
        betterTwice();
        betterRefusals();
        Due.finish();
    }

    private static void swap() {
        JoineryFloor x = Due.crossing();
        Due.due("14: makes a ring", x.swap(0, 0), 0);
        Due.dueOrder("14: nothing is changed", x, 0, 3);
        Due.due("14: the day stays", x.end(), 11);
        Due.due("14: makes none", x.swap(1, 0), 1);
        Due.dueOrder("14: is done", x, 2, 1);
        Due.dueOrder("14: the other machine stays", x, 0, 3);
        Due.due("14: a shorter day", x.end(), 7);
        Due.dueBegins("14", x, 0, 3, 0, 3);
        JoineryFloor y = Due.floor(new int[][] {{0, 0}}, new int[] {0, 0, 0},
            new int[][] {{0, 0, 1}, {1, 0, 2}, {2, 0, 3}});
        Due.due("14: the last places", y.swap(0, 1), 1);
        Due.dueOrder("14", y, 0, 2, 1);
    }

    private static void swapRefusals() {
        JoineryFloor x = Due.floor(new int[][] {{0, 0}, {1, 0}, {1, 0}}, new int[] {0, 0},
            new int[][] {{0, 0, 1}, {1, 0, 2}, {0, 1, 3}, {1, 1, 4}, {1, 2, 4}});
        Due.due("14: machine -1", x.swap(-1, 0), Due.UNKNOWN);
        Due.due("14: machine 3", x.swap(3, -1), Due.UNKNOWN);
        Due.due("14: place -1", x.swap(0, -1), Due.OUTSIDE);
        Due.due("14: place 1 of 2", x.swap(0, 1), Due.OUTSIDE);
        Due.due("14: highest place", x.swap(0, Due.HIGHEST), Due.OUTSIDE);
        Due.due("14: drying", x.swap(1, 0), Due.NOT);
        Due.due("14: OUTSIDE is ahead of NOT", x.swap(1, 1), Due.OUTSIDE);
        Due.due("14: one place is no two", x.swap(2, 0), Due.OUTSIDE);
        Due.dueOrder("14: nothing is changed", x, 0, 1);
        Due.dueOrder("14: nothing is changed", x, 2, 3);
    }

    private static void swapInRing() {
        JoineryFloor x = Due.ring();
        Due.due("14: leaves the ring", x.swap(1, 0), 1);
        Due.due("14: a day", x.end(), 11);
        JoineryFloor y = Due.floor(new int[][] {{0, 0}, {0, 0}}, new int[] {0, 0},
            new int[][] {{0, 0, 1}, {0, 0, 2}, {0, 1, 3}, {1, 1, 4}});
        Due.due("14: a piece's own steps", y.swap(0, 0), 0);
        Due.due("14: a ring by lay", y.lay(1, 0), 0);
        Due.due("14: done in a ring, that stays", y.swap(1, 0), 1);
        Due.dueOrder("14: it is done", y, 3, 2);
        Due.due("14: still a ring", y.end(), Due.NONE);
    }

    private static void swapOtherKinds() {
        JoineryFloor x = Due.floor(new int[][] {{2, 7}, {3, 2}}, new int[] {0, 1},
            new int[][] {{0, 0, 3}, {1, 0, 2}, {0, 1, 4}, {0, 1, 5}});
        Due.due("14: setting", x.swap(0, 0), 1);
        Due.dueOrder("14", x, 1, 0);
        Due.due("14: a crew's ring", x.swap(1, 0), 0);
        Due.dueOrder("14", x, 2, 3);
    }

    private static void lay() {
        JoineryFloor x = Due.floor(new int[][] {{0, 0}, {1, 0}}, new int[] {0, 0, 0, 0},
            new int[][] {{0, 0, 1}, {1, 0, 2}, {2, 0, 3}, {3, 0, 4}, {0, 1, 5}, {1, 1, 5}, {2, 1, 5}});
        Due.due("15: to the front", x.lay(2, 0), 1);
        Due.dueOrder("15", x, 2, 0, 1, 3);
        Due.due("15: to the back", x.lay(0, 3), 1);
        Due.dueOrder("15", x, 2, 1, 3, 0);
        Due.due("15: where it is", x.lay(1, 1), 1);
        Due.dueOrder("15", x, 2, 1, 3, 0);
        Due.due("15: between", x.lay(2, 2), 1);
        Due.dueOrder("15", x, 1, 3, 2, 0);
        Due.dueBegins("15", x, 9, 0, 6, 2);
        Due.due("15: drying", x.lay(6, 0), 1);
        Due.dueOrder("15", x, 6, 4, 5);
        Due.due("15: end", x.end(), 15);
        JoineryFloor y = Due.crossing();
        Due.due("15: a ring", y.lay(3, 0), 0);
        Due.dueOrder("15: is done all the same", y, 3, 0);
        Due.due("15: a ring still", y.lay(1, 0), 0);
        Due.due("15: out of it", y.lay(1, 1), 1);
        Due.dueOrder("15", y, 2, 1);
    }

    private static void layRefusals() {
        JoineryFloor x = Due.crossing();
        Due.due("15: step -1", x.lay(-1, 0), Due.UNKNOWN);
        Due.due("15: step 4", x.lay(4, 9), Due.UNKNOWN);
        Due.due("15: place -1", x.lay(0, -1), Due.OUTSIDE);
        Due.due("15: place 2", x.lay(0, 2), Due.OUTSIDE);
        Due.due("15: highest place", x.lay(0, Due.HIGHEST), Due.OUTSIDE);
        Due.dueOrder("15: nothing is changed", x, 0, 3);
        Due.due("15: nothing is changed", x.end(), 11);
    }

    private static void endByPlainAndDrying() {
        Due.due("16: crossing", Due.crossing().end(), 11);
        Due.dueBegins("16: crossing", Due.crossing(), 0, 3, 5, 7);
        Due.due("16: a ring", Due.ring().end(), Due.NONE);
        JoineryFloor x = Due.floor(new int[][] {{1, 0}}, new int[] {0, 1, 1},
            new int[][] {{0, 0, 5}, {1, 0, 7}, {1, 0, 2}, {2, 0, 8}});
        Due.due("16: drying", x.end(), 9);
        Due.dueBegins("16: drying", x, 0, 0, 7, 0);
        x.lay(2, 0);
        Due.due("16: a drying machine's order does not matter", x.end(), 9);
    }

    private static void endBySetting() {
        JoineryFloor x = Due.floor(new int[][] {{2, 7}, {1, 0}}, new int[] {1, 1, 2, 2},
            new int[][] {{0, 0, 2}, {1, 0, 3}, {2, 0, 4}, {3, 1, 40}, {3, 0, 1}, {0, 0, 5}});
        Due.dueBegins("16: setting", x, 0, 2, 12, 0, 40, 48);
        Due.due("16: setting", x.end(), 53);
        JoineryFloor y = Due.floor(new int[][] {{2, 0}}, new int[] {1, 2}, new int[][] {{0, 0, 2}, {1, 0, 3}});
        Due.due("16: gap 0", y.end(), 5);
    }

    private static void endByCrew() {
        JoineryFloor four = Due.floor(new int[][] {{3, 4}}, new int[] {0, 1, 2, 3, 4, 5},
            new int[][] {{0, 0, 10}, {1, 0, 9}, {2, 0, 8}, {3, 0, 7}, {4, 0, 1}, {5, 0, 1}});
        Due.dueBegins("16: four hands", four, 0, 0, 0, 0, 7, 8);
        Due.due("16: four hands", four.end(), 10);
        JoineryFloor one = Due.floor(new int[][] {{3, 1}}, new int[] {0, 1, 2},
            new int[][] {{0, 0, 3}, {1, 0, 4}, {2, 0, 5}});
        Due.dueBegins("16: one hand", one, 0, 3, 7);
        JoineryFloor two = Due.floor(new int[][] {{0, 0}, {3, 2}}, new int[] {0, 1, 2},
            new int[][] {{0, 0, 6}, {0, 1, 2}, {1, 1, 3}, {2, 1, 1}});
        Due.dueBegins("16: not ahead of the one ahead in the order", two, 0, 6, 6, 8);
        JoineryFloor three = Due.floor(new int[][] {{3, 3}}, new int[] {0, 0, 0, 0, 0},
            new int[][] {{0, 0, 5}, {1, 0, 1}, {2, 0, 4}, {3, 0, 9}, {4, 0, 1}});
        Due.dueBegins("16: three hands", three, 0, 0, 0, 1, 4);
        JoineryFloor ring = Due.floor(new int[][] {{3, 4}}, new int[] {0}, new int[][] {{0, 0, 5}, {0, 0, 1}});
        Due.due("16: a crew's ring", ring.lay(1, 0), 0);
        Due.due("16: a crew's ring", ring.end(), Due.NONE);
    }

    private static void begin() {
        JoineryFloor x = Due.crossing();
        Due.due("17: step -1", x.begin(-1), Due.UNKNOWN);
        Due.due("17: step 4", x.begin(4), Due.UNKNOWN);
        JoineryFloor y = Due.ring();
        Due.due("17: a ring", y.begin(0), Due.NOT);
        Due.due("17: UNKNOWN is ahead of NOT", y.begin(4), Due.UNKNOWN);
    }

    private static void tail() {
        JoineryFloor x = Due.floor(new int[][] {{0, 0}, {1, 0}}, new int[] {0, 0},
            new int[][] {{0, 0, 5}, {0, 1, 4}, {1, 0, 3}, {1, 1, 9}});
        int[] tails = {12, 0, 9, 0};
        int[] slacks = {0, 8, 0, 0};
        for (int s = 0; s < 4; s++) {
            Due.due("18: tail(" + s + ", 0)", x.tail(s, 0), tails[s]);
            Due.due("18: tail(" + s + ", 1)", x.tail(s, 1), slacks[s]);
        }
        x.swap(0, 0);
        Due.due("18: behind swap", x.tail(2, 0), 9);
        Due.due("18: behind swap", x.tail(0, 0), 4);
        JoineryFloor y = Due.crossing();
        y.swap(1, 0);
        int[] more = {4, 0, 4, 0};
        int[] pause = {0, 2, 1, 0};
        for (int s = 0; s < 4; s++) {
            Due.due("18: crossing, tail(" + s + ", 0)", y.tail(s, 0), more[s]);
            Due.due("18: crossing, tail(" + s + ", 1)", y.tail(s, 1), pause[s]);
        }
    }

    private static void tailRefusals() {
        JoineryFloor x = Due.ring();
        Due.due("18: a ring", x.tail(0, 0), Due.NOT);
        Due.due("18: a ring", x.tail(0, 1), Due.NOT);
        Due.due("18: OUTSIDE is ahead of NOT", x.tail(0, 2), Due.OUTSIDE);
        Due.due("18: what -1", x.tail(0, -1), Due.OUTSIDE);
        Due.due("18: UNKNOWN is ahead of OUTSIDE", x.tail(4, 2), Due.UNKNOWN);
        Due.due("18: step -1", x.tail(-1, 0), Due.UNKNOWN);
        Due.due("18: no simple floor", Due.unsimple().tail(0, 0), Due.NOT);
    }

    private static void row() {
        JoineryFloor x = Due.crossing();
        int[] row = {0, 1, 2, 3, Due.NONE};
        for (int i = 0; i < 5; i++) Due.due("19: row(" + i + ")", x.row(i), row[i]);
        Due.due("19: row(-1)", x.row(-1), Due.NONE);
        Due.due("19: lowest", x.row(Due.LOWEST), Due.NONE);
        Due.due("19: highest", x.row(Due.HIGHEST), Due.NONE);
        x.swap(1, 0);
        int[] other = {0, 3, Due.NONE, Due.NONE};
        for (int i = 0; i < 4; i++) Due.due("19: behind swap, row(" + i + ")", x.row(i), other[i]);
        Due.due("19: a ring", Due.ring().row(0), Due.NOT);
        Due.due("19: a ring, no such place", Due.ring().row(-1), Due.NOT);
        Due.due("19: no simple floor", Due.unsimple().row(0), Due.NOT);
        JoineryFloor dry = Due.floor(new int[][] {{1, 0}}, new int[] {0, 1}, new int[][] {{0, 0, 5}, {1, 0, 7}});
        Due.due("19: the first with SLACK 0", dry.row(0), 1);
        Due.due("19: no row along a drying machine", dry.row(1), Due.NONE);
    }

    private static void rowByPieceFirst() {
        JoineryFloor x = Due.floor(new int[][] {{0, 0}, {0, 0}}, new int[] {0, 0},
            new int[][] {{0, 0, 2}, {1, 0, 3}, {0, 1, 3}});
        Due.due("19: first", x.row(0), 0);
        Due.due("19: its piece is ahead of its machine", x.row(1), 2);
        Due.due("19: over", x.row(2), Due.NONE);
    }

    private static JoineryFloor forRules() {
        return Due.floor(new int[][] {{0, 0}, {1, 0}}, new int[] {0, 0, 0},
            new int[][] {{0, 0, 5}, {0, 1, 1}, {1, 0, 3}, {1, 1, 9}, {2, 0, 3}});
    }

    private static void rule() {
        JoineryFloor x = forRules();
        Due.due("20: the least span", x.rule(0), 12);
        Due.dueOrder("20: 0", x, 2, 4, 0);
        Due.dueOrder("20: 0, drying too", x, 3, 1);
        Due.dueBegins("20: 0", x, 6, 11, 0, 3, 3);
        Due.due("20: the greatest sum", x.rule(1), 12);
        Due.dueOrder("20: 1", x, 2, 0, 4);
        Due.dueOrder("20: 1, drying too", x, 3, 1);
        Due.due("20: nothing else", x.rule(2), 17);
        Due.dueOrder("20: 2", x, 0, 2, 4);
        Due.dueOrder("20: 2, drying too", x, 1, 3);
        Due.due("20: rule -1", x.rule(-1), Due.OUTSIDE);
        Due.due("20: rule 3", x.rule(3), Due.OUTSIDE);
        Due.dueOrder("20: nothing is changed", x, 0, 2, 4);
        Due.due("20: a step that comes stands last", x.step(1, 0, 1), 5);
        Due.dueOrder("20: a step that comes", x, 0, 2, 4, 5);
    }

    private static void ruleBySetting() {
        // piece 2 is of piece 0's sort, so that no gap keeps it from beginning earliest
        JoineryFloor x = Due.floor(new int[][] {{2, 6}}, new int[] {4, 5, 4},
            new int[][] {{0, 0, 3}, {1, 0, 1}, {2, 0, 8}});
        Due.due("20: setting", x.rule(2), 18);
        Due.dueOrder("20: setting", x, 0, 2, 1);
        Due.due("20: setting, least span", x.rule(0), 18);
        Due.dueOrder("20: setting, least span", x, 1, 0, 2);
    }

    private static void ruleByCrew() {
        JoineryFloor x = Due.floor(new int[][] {{3, 2}, {1, 0}}, new int[] {0, 1, 2, 3},
            new int[][] {{0, 0, 9}, {1, 0, 4}, {2, 1, 2}, {2, 0, 1}, {3, 0, 2}});
        Due.due("20: crew", x.rule(0), 12);
        Due.dueOrder("20: crew", x, 4, 1, 3, 0);
        Due.dueBegins("20: crew", x, 3, 0, 0, 2, 0);
    }

    private static void ruleLeavesRing() {
        JoineryFloor x = Due.ring();
        Due.due("20: from a ring", x.rule(2), 7);
        Due.dueOrder("20: from a ring", x, 0, 3);
        Due.dueOrder("20: from a ring", x, 2, 1);
    }

    private static void better() {
        JoineryFloor x = Due.crossing();
        Due.due("21: none", x.better(0), 0);
        Due.due("21: nothing is changed", x.end(), 11);
        Due.due("21: one", x.better(50), 1);
        Due.due("21: shorter", x.end(), 7);
        Due.dueOrder("21: swapped", x, 2, 1);
        Due.due("21: it is over", x.better(50), 0);
        Due.due("21: as it was", x.end(), 7);
    }

    private static void betterTwice() {
        int[][] machines = {{0, 0}, {0, 0}, {1, 0}};
        int[][] steps = {{0, 0, 9}, {1, 0, 2}, {1, 2, 20}, {2, 1, 9}, {3, 1, 2}, {3, 2, 19}};
        JoineryFloor x = Due.floor(machines, new int[] {0, 0, 0, 0}, steps);
        Due.due("21: end", x.end(), 31);
        Due.due("21: up to one", x.better(1), 1);
        Due.due("21: end", x.end(), 30);
        Due.dueOrder("21: the first machine alone", x, 1, 0);
        Due.dueOrder("21: the first machine alone", x, 3, 4);
        Due.due("21: up to one more", x.better(1), 1);
        Due.due("21: end", x.end(), 22);
        JoineryFloor y = Due.floor(machines, new int[] {0, 0, 0, 0}, steps);
        Due.due("21: both", y.better(2), 2);
        Due.due("21: end", y.end(), 22);
    }

    private static void betterRefusals() {
        JoineryFloor x = Due.ring();
        Due.due("21: a ring", x.better(1), Due.NOT);
        Due.due("21: a ring, none", x.better(0), Due.NOT);
        Due.due("21: OUTSIDE is ahead of NOT", x.better(51), Due.OUTSIDE);
        Due.due("21: -1", x.better(-1), Due.OUTSIDE);
        Due.due("21: no simple floor", Due.unsimple().better(1), Due.NOT);
    }
}
