/** Promises 7 to 13: sheets. */
public final class SheetsTest {
    public static void main(String[] args) {
        sheet();
        tear();
        put();
        putCodes();
        at();
        copy();
        copyCodes();
        copyOverlaps();
        read();
        readRefusals();
        readFull();
        codes();
        Due.finish();
    }

    private static void sheet() {
        JoineryFloor x = new JoineryFloor();
        Due.due("7: sheet -1", x.sheet(-1, 0, 1), Due.UNKNOWN);
        Due.due("7: sheet 6", x.sheet(6, 0, 1), Due.UNKNOWN);
        Due.due("7: UNKNOWN is ahead of OUTSIDE", x.sheet(6, 3, 41), Due.UNKNOWN);
        Due.due("7: form -1", x.sheet(0, -1, 1), Due.OUTSIDE);
        Due.due("7: form 3", x.sheet(0, 3, 1), Due.OUTSIDE);
        Due.due("7: 41 places", x.sheet(0, 0, 41), Due.OUTSIDE);
        Due.due("7: form 3 is ahead of CODE 4", x.sheet(0, 3, -1), Due.OUTSIDE);
        Due.due("7: no code of refusals", x.code(), 0);
        Due.due("7: no row came", x.tear(0), 0);
        for (int s = 0; s < 6; s++) Due.due("7: sheet " + s, x.sheet(s, s % 3, 40), 40);
        Due.due("7: no places", x.sheet(5, 2, 0), 0);
        Due.due("7: CODE 0", x.code(), 0);
        Due.due("7: no place in it", x.at(5, 0), 0);
        Due.due("7: CODE 3", x.code(), 3);
        Due.due("7: but a row", x.tear(5), 1);
        Due.due("7: -1 places", x.sheet(0, 1, -1), 0);
        Due.due("7: CODE 4", x.code(), 4);
        Due.due("7: lowest places", x.sheet(0, 1, Due.LOWEST), 0);
        Due.due("7: CODE 4 again", x.code(), 4);
        Due.due("7: the row stays of its form", x.put(0, 0, 39, 5), 5);
        Due.due("7: a new row in its place", x.sheet(0, 1, 39), 39);
        Due.due("7: of the new form", x.put(0, 1, 38, 300), 300);
        x.sheet(0, 1, 40);
        Due.due("7: numbers are 0 at first", x.at(0, 38), 0);
        Due.due("7: there", x.code(), 0);
        x.put(0, 1, 38, 300);
        x.tear(0);
        x.sheet(0, 1, 40);
        Due.due("7: 0 at first behind tear", x.at(0, 38), 0);
    }

    private static void tear() {
        JoineryFloor x = new JoineryFloor();
        Due.due("8: sheet -1", x.tear(-1), Due.UNKNOWN);
        Due.due("8: sheet 6", x.tear(6), Due.UNKNOWN);
        x.sheet(5, 0, 3);
        x.at(5, 3);
        Due.due("8: a row", x.tear(5), 1);
        Due.due("8: names no codes", x.code(), 3);
        Due.due("8: nothing", x.tear(5), 0);
        Due.due("8: no row now", x.at(5, 0), 0);
        Due.due("8: CODE 1", x.code(), 1);
    }

    private static void put() {
        JoineryFloor x = new JoineryFloor();
        for (int form = 0; form < 3; form++) x.sheet(form, form, 2);
        int[] numbers = {0, 1, -1, 127, 128, 255, 256, 32767, 32768, 65535, 65536, -129, Due.LOWEST, Due.HIGHEST};
        for (int v : numbers) {
            Due.due("9: byte of " + v, x.put(0, 0, 1, v), (byte) v);
            Due.due("9: at", x.at(0, 1), (byte) v);
            Due.due("9: short of " + v, x.put(1, 1, 1, v), (short) v);
            Due.due("9: at", x.at(1, 1), (short) v);
            Due.due("9: int of " + v, x.put(2, 2, 1, v), v);
            Due.due("9: at", x.at(2, 1), v);
            Due.due("9: the place beside it", x.at(2, 0), 0);
        }
    }

    private static void putCodes() {
        JoineryFloor x = new JoineryFloor();
        Due.due("9: sheet -1", x.put(-1, 0, 0, 1), Due.UNKNOWN);
        Due.due("9: sheet 6", x.put(6, 3, 0, 1), Due.UNKNOWN);
        Due.due("9: form -1", x.put(0, -1, 0, 1), Due.OUTSIDE);
        Due.due("9: form 3", x.put(0, 3, 0, 1), Due.OUTSIDE);
        Due.due("9: no row", x.put(0, 1, 9, 1), 0);
        Due.due("9: CODE 1 is ahead of 2 and 3", x.code(), 1);
        x.sheet(0, 0, 2);
        Due.due("9: another form", x.put(0, 1, 9, 1), 0);
        Due.due("9: CODE 2 is ahead of 3", x.code(), 2);
        for (int i : new int[] {-1, 2, Due.LOWEST, Due.HIGHEST}) {
            x.put(0, 0, 1, 7);
            Due.due("9: CODE 0", x.code(), 0);
            Due.due("9: no place " + i, x.put(0, 0, i, 1), 0);
            Due.due("9: CODE 3", x.code(), 3);
        }
        Due.due("9: what has a code changes nothing", x.at(0, 1), 7);
        x.put(0, 0, 2, 1);
        Due.due("9: refused", x.put(0, 3, 0, 1), Due.OUTSIDE);
        Due.due("9: CODE as it was", x.code(), 3);
    }

    private static void at() {
        JoineryFloor x = new JoineryFloor();
        Due.due("10: sheet -1", x.at(-1, 0), Due.UNKNOWN);
        Due.due("10: sheet 6", x.at(6, 0), Due.UNKNOWN);
        Due.due("10: no row", x.at(0, -1), 0);
        Due.due("10: CODE 1", x.code(), 1);
        Due.due("10: refused", x.at(6, 0), Due.UNKNOWN);
        Due.due("10: CODE as it was", x.code(), 1);
        for (int form = 0; form < 3; form++) {
            x.sheet(form, form, 3);
            x.put(form, form, 2, -5);
            Due.due("10: any form", x.at(form, 2), -5);
            Due.due("10: CODE 0", x.code(), 0);
            for (int i : new int[] {-1, 3, Due.LOWEST, Due.HIGHEST}) {
                Due.due("10: no place " + i, x.at(form, i), 0);
                Due.due("10: CODE 3", x.code(), 3);
            }
        }
    }

    private static JoineryFloor numbered(int places) {
        JoineryFloor x = new JoineryFloor();
        for (int s = 0; s < 2; s++) {
            x.sheet(s, 1, places);
            for (int i = 0; i < places; i++) x.put(s, 1, i, 100 * s + i + 1);
        }
        return x;
    }

    private static void dueNumbers(String what, JoineryFloor x, int s, int... numbers) {
        for (int i = 0; i < numbers.length; i++) Due.due(what + ": at(" + s + ", " + i + ")", x.at(s, i), numbers[i]);
    }

    private static void copy() {
        JoineryFloor x = numbered(4);
        Due.due("11: two numbers", x.copy(0, 1, 1, 2, 2), 1);
        Due.due("11: CODE 0", x.code(), 0);
        dueNumbers("11", x, 0, 1, 2, 3, 4);
        dueNumbers("11", x, 1, 101, 102, 2, 3);
        Due.due("11: a whole row", x.copy(1, 0, 0, 0, 4), 1);
        dueNumbers("11", x, 0, 101, 102, 2, 3);
        Due.due("11: none, at the end", x.copy(0, 4, 1, 4, 0), 1);
        Due.due("11: CODE 0 of none", x.code(), 0);
        dueNumbers("11", x, 1, 101, 102, 2, 3);
    }

    private static void copyCodes() {
        JoineryFloor x = numbered(4);
        Due.due("11: sheet -1", x.copy(-1, 0, 0, 0, 1), Due.UNKNOWN);
        Due.due("11: sheet 6", x.copy(0, 0, 6, 0, 1), Due.UNKNOWN);
        Due.due("11: no row to copy from", x.copy(2, 0, 0, 0, 9), 0);
        Due.due("11: CODE 1 is ahead of 2 and 3", x.code(), 1);
        Due.due("11: no row to copy to", x.copy(0, -1, 2, 0, 1), 0);
        Due.due("11: CODE 1", x.code(), 1);
        x.sheet(2, 2, 4);
        Due.due("11: unlike forms", x.copy(0, -1, 2, 0, 1), 0);
        Due.due("11: CODE 2 is ahead of 3", x.code(), 2);
        int[][] wrong = {{-1, 0, 1}, {0, -1, 1}, {0, 0, -1}, {0, 0, 5}, {1, 0, 4}, {0, 1, 4}, {4, 0, 1}, {0, 4, 1},
            {5, 0, 0}, {0, 5, 0}, {Due.HIGHEST, 0, 1}, {0, Due.HIGHEST, 1}, {1, 1, Due.HIGHEST},
            {Due.HIGHEST, Due.HIGHEST, Due.HIGHEST}, {Due.LOWEST, 0, 1}, {0, 0, Due.LOWEST}};
        for (int[] w : wrong) {
            x.at(0, 0);
            Due.due("11: " + w[0] + ", " + w[1] + ", " + w[2], x.copy(0, w[0], 1, w[1], w[2]), 0);
            Due.due("11: CODE 3", x.code(), 3);
        }
        Due.due("11: refused", x.copy(0, 0, 6, 0, 1), Due.UNKNOWN);
        Due.due("11: CODE as it was", x.code(), 3);
        dueNumbers("11: nothing is changed", x, 0, 1, 2, 3, 4);
        dueNumbers("11: nothing is changed", x, 1, 101, 102, 103, 104);
        x.sheet(3, 1, 2);
        Due.due("11: a shorter row", x.copy(0, 0, 3, 0, 3), 0);
        Due.due("11: CODE 3 by the shorter row", x.code(), 3);
        Due.due("11: from the shorter row", x.copy(3, 0, 0, 0, 3), 0);
        Due.due("11: CODE 3 from the shorter row", x.code(), 3);
    }

    private static void copyOverlaps() {
        JoineryFloor x = numbered(5);
        Due.due("11: onwards in one row", x.copy(0, 0, 0, 1, 4), 1);
        dueNumbers("11: as they were", x, 0, 1, 1, 2, 3, 4);
        Due.due("11: backwards in one row", x.copy(0, 2, 0, 0, 3), 1);
        dueNumbers("11: as they were", x, 0, 2, 3, 4, 3, 4);
    }

    private static void fill(JoineryFloor x, int s, int form, int... numbers) {
        x.sheet(s, form, numbers.length);
        for (int i = 0; i < numbers.length; i++) x.put(s, form, i, numbers[i]);
    }

    private static void read() {
        for (int form = 0; form < 3; form++) {
            JoineryFloor x = Due.floor(new int[][] {{0, 0}, {2, 9}}, new int[] {3}, new int[][] {{0, 1, 1}});
            fill(x, form, form, 1, 7, 0, 5, 1, 100);
            x.at(form, 9);
            Due.due("12: a piece", x.read(form, 4), 1);
            Due.due("12: CODE 0", x.code(), 0);
            int[][] due = {{1, 1, 7, 0, 1}, {1, 0, 5, 1, 0}, {1, 1, 100, 2, 2}};
            for (int s = 0; s < 3; s++) {
                for (int what = 0; what < 5; what++) Due.due("12: told", x.told(s + 1, what), due[s][what]);
            }
            Due.due("12: its sort is unlike the other's", x.begin(1), 10);
            Due.due("12: once more", x.read(form, 4), 2);
            Due.due("12: steps", x.count(2), 7);
        }
        JoineryFloor x = new JoineryFloor();
        x.sheet(0, 0, 0);
        Due.due("12: no numbers, no steps", x.read(0, 9), 0);
        Due.due("12: pieces", x.count(1), 1);
        Due.due("12: steps", x.count(2), 0);
    }

    private static void readRefusals() {
        JoineryFloor x = Due.floor(new int[][] {{0, 0}}, new int[0], new int[0][]);
        Due.due("12: sheet -1", x.read(-1, 0), Due.UNKNOWN);
        Due.due("12: UNKNOWN is ahead of OUTSIDE", x.read(6, 10), Due.UNKNOWN);
        Due.due("12: sort -1", x.read(0, -1), Due.OUTSIDE);
        Due.due("12: sort 10", x.read(0, 10), Due.OUTSIDE);
        Due.due("12: no code of these", x.code(), 0);
        Due.due("12: no row", x.read(0, 0), 0);
        Due.due("12: CODE 1", x.code(), 1);
        fill(x, 0, 2, 0, 5, 9);
        Due.due("12: an odd number of places, and a number that is no machine", x.read(0, 0), 0);
        Due.due("12: CODE 3 is ahead of NOT", x.code(), 3);
        int[][] wrong = {{0, 5, 1, 5}, {0, 5, -1, 5}, {0, 5, 0, 0}, {0, 5, 0, 1001}, {0, -5, 0, 5},
            {Due.HIGHEST, 5}, {0, Due.LOWEST}};
        for (int[] w : wrong) {
            fill(x, 0, 2, w);
            x.at(0, -1);
            Due.due("12: no machine, no span", x.read(0, 0), Due.NOT);
            Due.due("12: CODE as it was", x.code(), 3);
            Due.due("12: no piece", x.count(1), 0);
            Due.due("12: no steps", x.count(2), 0);
        }
        fill(x, 0, 2, 0, 1, 0, 1000);
        Due.due("12: spans 1 and 1000", x.read(0, 0), 0);
        Due.due("12: CODE 0", x.code(), 0);
    }

    private static void readFull() {
        JoineryFloor x = Due.floor(new int[][] {{0, 0}}, new int[0], new int[0][]);
        int[] eight = {0, 1, 0, 1, 0, 1, 0, 1, 0, 1, 0, 1, 0, 1, 0, 1};
        fill(x, 0, 0, eight);
        x.sheet(1, 0, 18);
        for (int i = 1; i < 18; i += 2) x.put(1, 0, i, 1);
        x.at(1, 18);
        Due.due("12: nine steps", x.read(1, 0), Due.FULL);
        Due.due("12: CODE as it was", x.code(), 3);
        x.put(1, 0, 16, 5);
        Due.due("12: NOT is ahead of FULL", x.read(1, 0), Due.NOT);
        Due.due("12: no piece", x.count(1), 0);
        for (int p = 0; p < 3; p++) Due.due("12: eight steps", x.read(0, 0), p);
        x.piece(0);
        x.step(3, 0, 1);
        Due.due("12: 25 and 8", x.read(0, 0), Due.FULL);
        Due.due("12: no piece more", x.count(1), 4);
        Due.due("12: no steps more", x.count(2), 25);
        fill(x, 2, 0, 0, 1, 0, 1, 0, 1, 0, 1, 0, 1, 0, 1, 0, 1);
        Due.due("12: 25 and 7", x.read(2, 0), 4);
        Due.due("12: 32 steps", x.count(2), 32);
        x.sheet(3, 0, 0);
        for (int p = 5; p < 12; p++) Due.due("12: pieces without steps", x.read(3, 0), p);
        Due.due("12: a thirteenth piece", x.read(3, 0), Due.FULL);
        Due.due("12: a code is ahead of FULL", x.read(4, 0), 0);
        Due.due("12: CODE 1", x.code(), 1);
    }

    private static void codes() {
        JoineryFloor x = new JoineryFloor();
        x.sheet(0, 0, -1);
        Due.due("13: code()", x.code(), 4);
        Due.due("13: code() once more", x.code(), 4);
        x.machine(0, 0);
        x.piece(0);
        x.step(0, 0, 4);
        x.told(0, 0);
        x.count(9);
        x.tear(0);
        x.end();
        x.swap(0, 0);
        x.rule(0);
        x.windows(5);
        x.least(5);
        x.fail(0, 0, 0);
        Due.due("13: calls that name no codes", x.code(), 4);
        x.put(0, 0, 0, 0);
        Due.due("13: put", x.code(), 1);
        x.sheet(0, 0, 41);
        x.put(9, 0, 0, 0);
        x.at(9, 0);
        x.copy(9, 0, 0, 0, 0);
        x.read(9, 0);
        Due.due("13: refused ones", x.code(), 1);
        x.sheet(0, 0, 1);
        Due.due("13: sheet", x.code(), 0);
        x.at(0, 1);
        Due.due("13: at", x.code(), 3);
        x.put(0, 1, 0, 0);
        Due.due("13: put", x.code(), 2);
        x.copy(0, 0, 0, 0, 1);
        Due.due("13: copy", x.code(), 0);
        x.read(0, 0);
        Due.due("13: read", x.code(), 3);
        x.at(0, 0);
        Due.due("13: at", x.code(), 0);
    }
}
