/** The boundary cases of section 2, and of the promises 7 to 13 on sheets. */
public final class SheetEdgesTest {
    private static final int LOWEST = Integer.MIN_VALUE, HIGHEST = Integer.MAX_VALUE;

    public static void main(String[] args) {
        nothingAtFirst();
        for (int form = 0; form < 3; form++) {
            placesOfSheet(form);
            placesOfPut(form);
            placesOfCopy(form);
        }
        sheetOfNoPlaces();
        sheetAnew();
        tearAndTearAgain();
        cutToBytes();
        cutToShorts();
        cutToInts();
        sheetsStandApart();
        copyInOneRow();
        copyOfNone();
        copyBetweenRowsOfUnlikeLength();
        readMachines();
        readSpans();
        readSorts();
        readOddPlaces();
        readNoPlaces();
        readStepsOfPiece();
        readStepsInAll();
        readPieces();
        readOfAnyForm();
        readAgain();
        codeOfLatest();
        Due.finish();
    }

    private static void dueCode(String what, JoineryFloor x, int code) {
        Due.due(what + ", CODE", x.code(), code);
    }

    private static void nothingAtFirst() {
        JoineryFloor x = new JoineryFloor();
        dueCode("1: a new object", x, 0);
        for (int s = 0; s < 6; s++) {
            Due.due("1: no sheet " + s, x.tear(s), 0);
            dueCode("1: tear has none", x, s == 0 ? 0 : 1);
            Due.due("1: no sheet " + s, x.at(s, 0), 0);
            dueCode("1: no row", x, 1);
        }
    }

    private static void placesOfSheet(int form) {
        for (int n : new int[] {0, 1, 2, 39, 40}) {
            JoineryFloor x = new JoineryFloor();
            Due.due("7: places", x.sheet(3, form, n), n);
            dueCode("7: places", x, 0);
            for (int i = -1; i <= n; i++) {
                boolean there = i >= 0 && i < n;
                Due.due("10: place " + i + " of " + n, x.at(3, i), 0);
                dueCode("10: place " + i + " of " + n, x, there ? 0 : 3);
            }
        }
        JoineryFloor x = new JoineryFloor();
        Due.due("7: 41 places", x.sheet(3, form, 41), Due.OUTSIDE);
        dueCode("7: 41 places", x, 0);
        Due.due("7: no row came of it", x.tear(3), 0);
        Due.due("7: -1 places", x.sheet(3, form, -1), 0);
        dueCode("7: -1 places", x, 4);
        Due.due("7: no row came of it", x.tear(3), 0);
    }

    private static void sheetOfNoPlaces() {
        JoineryFloor x = new JoineryFloor();
        Due.due("7: no places", x.sheet(0, 1, 0), 0);
        dueCode("7: no places", x, 0);
        Due.due("9: a row of its FORM", x.put(0, 0, 0, 1), 0);
        dueCode("9: another FORM", x, 2);
        Due.due("9: no place in it", x.put(0, 1, 0, 1), 0);
        dueCode("9: no place in it", x, 3);
        Due.due("8: but a row", x.tear(0), 1);
        Due.due("8: and no more", x.tear(0), 0);
    }

    /** A new row has 0 in all its places, whatever stood there, and may be longer, shorter, of another FORM. */
    private static void sheetAnew() {
        JoineryFloor x = new JoineryFloor();
        x.sheet(2, 2, 40);
        for (int i = 0; i < 40; i++) x.put(2, 2, i, 100 + i);
        Due.due("7: shorter", x.sheet(2, 0, 3), 3);
        for (int i = 0; i < 3; i++) Due.due("7: 0 at first", x.at(2, i), 0);
        x.at(2, 3);
        dueCode("7: shorter", x, 3);
        Due.due("7: of another FORM", x.put(2, 0, 2, 200), -56);
        Due.due("7: longer", x.sheet(2, 1, 40), 40);
        for (int i = 0; i < 40; i++) Due.due("7: 0 at first", x.at(2, i), 0);
    }

    private static void tearAndTearAgain() {
        for (int s = 0; s < 6; s++) {
            JoineryFloor x = new JoineryFloor();
            for (int r = 0; r < 6; r++) x.sheet(r, r % 3, 2);
            x.at(0, 5);
            Due.due("8: a row", x.tear(s), 1);
            dueCode("8: as it was", x, 3);
            Due.due("8: none", x.tear(s), 0);
            dueCode("8: as it was", x, 3);
            for (int r = 0; r < 6; r++) Due.due("8: the others stay", x.tear(r), r == s ? 0 : 1);
        }
    }

    private static void placesOfPut(int form) {
        JoineryFloor x = new JoineryFloor();
        x.sheet(0, form, 5);
        for (int i : new int[] {LOWEST, -1, 0, 4, 5, HIGHEST}) {
            boolean there = i == 0 || i == 4;
            Due.due("9: place " + i + " of 5", x.put(0, form, i, 7), there ? 7 : 0);
            dueCode("9: place " + i + " of 5", x, there ? 0 : 3);
        }
        for (int i = 0; i < 5; i++) Due.due("9: in that place alone", x.at(0, i), i == 0 || i == 4 ? 7 : 0);
        for (int other = 0; other < 3; other++) {
            Due.due("9: FORM " + other + " for " + form, x.put(0, other, 1, 9), other == form ? 9 : 0);
            dueCode("9: FORM " + other + " for " + form, x, other == form ? 0 : 2);
        }
    }

    private static void dueCut(int form, int[][] numbers) {
        JoineryFloor x = new JoineryFloor();
        x.sheet(0, form, 1);
        for (int[] n : numbers) {
            Due.due("9: FORM " + form + " of " + n[0], x.put(0, form, 0, n[0]), n[1]);
            Due.due("10: FORM " + form + " of " + n[0], x.at(0, 0), n[1]);
            dueCode("9: FORM " + form + " of " + n[0], x, 0);
        }
    }

    private static void cutToBytes() {
        dueCut(0,
            new int[][] {{0, 0}, {127, 127}, {128, -128}, {129, -127}, {255, -1}, {256, 0}, {383, 127}, {384, -128},
            {-1, -1}, {-128, -128}, {-129, 127}, {-256, 0}, {-257, -1}, {32767, -1}, {32768, 0}, {0x12345678, 0x78},
            {0x123456F8, -8}, {HIGHEST, -1}, {LOWEST, 0}, {LOWEST + 127, 127}, {LOWEST + 128, -128}});
    }

    private static void cutToShorts() {
        dueCut(1, new int[][] {{0, 0}, {128, 128}, {255, 255}, {32767, 32767}, {32768, -32768}, {32769, -32767},
            {65535, -1}, {65536, 0}, {98303, 32767}, {98304, -32768}, {-1, -1}, {-32768, -32768}, {-32769, 32767},
            {-65536, 0}, {0x12345678, 0x5678}, {0x1234F678, -2440}, {HIGHEST, -1}, {LOWEST, 0}});
    }

    private static void cutToInts() {
        dueCut(2, new int[][] {{0, 0}, {128, 128}, {32768, 32768}, {65536, 65536}, {-129, -129}, {-32769, -32769},
            {HIGHEST, HIGHEST}, {LOWEST, LOWEST}, {-1, -1}});
    }

    private static void sheetsStandApart() {
        JoineryFloor x = new JoineryFloor();
        for (int s = 0; s < 6; s++) {
            x.sheet(s, s % 3, s + 1);
            x.put(s, s % 3, s, 10 + s);
        }
        for (int s = 0; s < 6; s++) {
            for (int i = 0; i <= s; i++) Due.due("2: sheet " + s + ", place " + i, x.at(s, i), i == s ? 10 + s : 0);
            x.at(s, s + 1);
            dueCode("2: sheet " + s, x, 3);
        }
    }

    private static JoineryFloor numbered(int form, int places) {
        JoineryFloor x = new JoineryFloor();
        for (int s = 0; s < 2; s++) {
            x.sheet(s, form, places);
            for (int i = 0; i < places; i++) x.put(s, form, i, 10 * s + i + 1);
        }
        return x;
    }

    /** Every i, j, n about the places of two rows of 3, and within one of them. */
    private static void placesOfCopy(int form) {
        for (int r = 0; r < 2; r++) {
            for (int i = -1; i < 5; i++) {
                for (int j = -1; j < 5; j++) {
                    for (int n = -1; n < 5; n++) dueCopy(form, i, r, j, n);
                }
            }
        }
    }

    private static void dueCopy(int form, int i, int r, int j, int n) {
        JoineryFloor x = numbered(form, 3);
        boolean done = i >= 0 && j >= 0 && n >= 0 && i + n <= 3 && j + n <= 3;
        String what = "11: " + Calls.text("copy", 0, i, r, j, n);
        Due.due(what, x.copy(0, i, r, j, n), done ? 1 : 0);
        dueCode(what, x, done ? 0 : 3);
        for (int k = 0; k < 3; k++) {
            boolean comes = done && k >= j && k < j + n;
            Due.due(what + ", place " + k, x.at(r, k), comes ? i + k - j + 1 : 10 * r + k + 1);
            if (r == 1) Due.due(what + ", place " + k + " stays", x.at(0, k), k + 1);
        }
    }

    private static void copyInOneRow() {
        JoineryFloor x = numbered(2, 40);
        Due.due("11: all but one, onwards", x.copy(0, 0, 0, 1, 39), 1);
        for (int i = 0; i < 40; i++) Due.due("11: as they were ahead of it", x.at(0, i), i == 0 ? 1 : i);
        JoineryFloor y = numbered(2, 40);
        Due.due("11: all but one, backwards", y.copy(0, 1, 0, 0, 39), 1);
        for (int i = 0; i < 40; i++) Due.due("11: as they were ahead of it", y.at(0, i), i == 39 ? 40 : i + 2);
        JoineryFloor z = numbered(2, 40);
        Due.due("11: all, to where they are", z.copy(0, 0, 0, 0, 40), 1);
        for (int i = 0; i < 40; i++) Due.due("11: as they were", z.at(0, i), i + 1);
    }

    private static void copyOfNone() {
        JoineryFloor x = numbered(1, 2);
        x.sheet(2, 1, 0);
        Due.due("11: none, of a row without places", x.copy(2, 0, 2, 0, 0), 1);
        dueCode("11: none", x, 0);
        Due.due("11: none, from behind the last place", x.copy(0, 2, 1, 2, 0), 1);
        dueCode("11: none", x, 0);
        Due.due("11: none, from one place further", x.copy(0, 3, 1, 0, 0), 0);
        dueCode("11: none", x, 3);
        Due.due("11: none, to one place further", x.copy(0, 0, 1, 3, 0), 0);
        dueCode("11: none", x, 3);
        Due.due("11: one, of a row without places", x.copy(2, 0, 0, 0, 1), 0);
        dueCode("11: one", x, 3);
    }

    private static void copyBetweenRowsOfUnlikeLength() {
        JoineryFloor x = numbered(0, 4);
        x.sheet(2, 0, 6);
        Due.due("11: all of the shorter row", x.copy(0, 0, 2, 2, 4), 1);
        int[] due = {0, 0, 1, 2, 3, 4};
        for (int i = 0; i < 6; i++) Due.due("11: in the longer row", x.at(2, i), due[i]);
        Due.due("11: more than the shorter row has", x.copy(0, 0, 2, 0, 5), 0);
        dueCode("11: more than the shorter row has", x, 3);
        Due.due("11: more than the shorter row takes", x.copy(2, 0, 1, 0, 5), 0);
        dueCode("11: more than the shorter row takes", x, 3);
        Due.due("11: as many as it takes", x.copy(2, 2, 1, 0, 4), 1);
        for (int i = 0; i < 4; i++) Due.due("11: in the shorter row", x.at(1, i), i + 1);
    }

    /** Two machines; a sheet with these numbers, of ints; CODE 3 ahead of read. */
    private static JoineryFloor sheetOf(int... numbers) {
        JoineryFloor x = Due.floor(new int[][] {{0, 0}, {2, 9}}, new int[0], new int[0][]);
        x.sheet(0, 2, numbers.length);
        for (int i = 0; i < numbers.length; i++) x.put(0, 2, i, numbers[i]);
        x.at(0, 40);
        return x;
    }

    private static void dueRead(String what, JoineryFloor x, int sort, int want, int code, int steps) {
        int pieces = x.count(1);
        int were = x.count(2);
        boolean done = want >= 0 && code == 0;
        Due.due("12: " + what, x.read(0, sort), want);
        dueCode("12: " + what, x, code);
        Due.due("12: " + what + ", pieces", x.count(1), pieces + (done ? 1 : 0));
        Due.due("12: " + what + ", steps", x.count(2), were + (done ? steps : 0));
    }

    private static void readMachines() {
        for (int m : new int[] {LOWEST, -1, 0, 1, 2, HIGHEST}) {
            boolean there = m == 0 || m == 1;
            dueRead("machine " + m + " of 2", sheetOf(m, 5), 0, there ? 0 : Due.NOT, there ? 0 : 3, 1);
            dueRead("machine " + m + " of 2, behind a good one", sheetOf(0, 5, m, 5), 0, there ? 0 : Due.NOT,
                there ? 0 : 3, 2);
        }
    }

    private static void readSpans() {
        for (int span : new int[] {LOWEST, -1, 0, 1, 1000, 1001, HIGHEST}) {
            boolean good = span == 1 || span == 1000;
            dueRead("span " + span, sheetOf(1, span), 0, good ? 0 : Due.NOT, good ? 0 : 3, 1);
            dueRead("span " + span + ", behind a good one", sheetOf(1, 1, 1, span), 0, good ? 0 : Due.NOT,
                good ? 0 : 3, 2);
        }
    }

    private static void readSorts() {
        for (int sort : new int[] {LOWEST, -1, 0, 9, 10, HIGHEST}) {
            boolean good = sort == 0 || sort == 9;
            dueRead("sort " + sort, sheetOf(1, 4), sort, good ? 0 : Due.OUTSIDE, good ? 0 : 3, 1);
        }
        // the sort is the piece's: the GAP of machine 1 is kept from a piece of another one
        JoineryFloor x = sheetOf(1, 4);
        for (int sort : new int[] {9, 9, 0}) x.read(0, sort);
        Due.dueBegins("12: sorts", x, 0, 4, 17);
    }

    private static void readOddPlaces() {
        int[] numbers = {0, 5, 1, 7, 0, 9, 1};
        for (int n = 0; n <= numbers.length; n++) {
            int[] some = new int[n];
            System.arraycopy(numbers, 0, some, 0, n);
            dueRead(n + " places", sheetOf(some), 0, 0, n % 2 == 0 ? 0 : 3, n / 2);
        }
        JoineryFloor x = sheetOf(9, 9, 9);
        x.sheet(1, 0, 1);
        dueCode("12", x, 0);
        dueRead("CODE 3 is ahead of NOT", x, 0, 0, 3, 0);
        x.tear(0);
        dueRead("CODE 1", x, 0, 0, 1, 0);
    }

    private static void readNoPlaces() {
        JoineryFloor x = new JoineryFloor();
        x.sheet(0, 0, 0);
        x.at(0, 0);
        Due.due("12: a piece without steps, and no machine there", x.read(0, 0), 0);
        dueCode("12: no places", x, 0);
        Due.due("12: one piece", x.count(1), 1);
        Due.due("12: no steps", x.count(2), 0);
    }

    /** 7, 8, 9 steps: 16 places are taken, 18 are not, nor are 40. */
    private static void readStepsOfPiece() {
        for (int steps : new int[] {7, 8, 9, 20}) {
            int[] numbers = new int[2 * steps];
            for (int k = 0; k < steps; k++) numbers[2 * k + 1] = k + 1;
            boolean fits = steps <= 8;
            JoineryFloor x = sheetOf(numbers);
            dueRead(steps + " steps", x, 0, fits ? 0 : Due.FULL, fits ? 0 : 3, steps);
            for (int s = 0; s < 8; s++) Due.due("12: SPAN", x.told(s, 2), fits && s < steps ? s + 1 : Due.UNKNOWN);
        }
        int[] wrong = new int[18];
        for (int k = 0; k < 9; k++) wrong[2 * k + 1] = 1;
        wrong[17] = 1001;
        dueRead("NOT is ahead of FULL", sheetOf(wrong), 0, Due.NOT, 3, 0);
    }

    private static JoineryFloor withSteps(int steps, int... numbers) {
        JoineryFloor x = sheetOf(numbers);
        for (int p = 0; p < 4; p++) x.piece(0);
        for (int s = 0; s < steps; s++) x.step(s % 4, 0, 1);
        return x;
    }

    private static void readStepsInAll() {
        dueRead("30 and 2 steps", withSteps(30, 0, 1, 1, 2), 0, 4, 0, 2);
        dueRead("31 and 2 steps", withSteps(31, 0, 1, 1, 2), 0, Due.FULL, 3, 0);
        dueRead("31 and 1 step", withSteps(31, 0, 1), 0, 4, 0, 1);
        dueRead("32 and 1 step", withSteps(32, 0, 1), 0, Due.FULL, 3, 0);
        dueRead("32 and none", withSteps(32), 0, 4, 0, 0);
        dueRead("32, and NOT", withSteps(32, 0, 0), 0, Due.NOT, 3, 0);
        JoineryFloor x = withSteps(30, 0, 1, 1, 2);
        x.read(0, 0);
        Due.due("12: the last step of all", x.told(31, 2), 2);
        Due.due("12: FULL now", x.step(4, 0, 1), Due.FULL);
    }

    private static void readPieces() {
        for (int pieces = 10; pieces < 13; pieces++) {
            for (int steps = 0; steps < 2; steps++) {
                JoineryFloor x = sheetOf(steps == 0 ? new int[0] : new int[] {0, 3});
                for (int p = 0; p < pieces; p++) x.piece(0);
                boolean fits = pieces < 12;
                dueRead("a piece behind " + pieces, x, 0, fits ? pieces : Due.FULL, fits ? 0 : 3, steps);
            }
        }
    }

    /** 200 is no span as a byte, but one as a short. */
    private static void readOfAnyForm() {
        for (int form = 0; form < 3; form++) {
            JoineryFloor x = Due.floor(new int[][] {{0, 0}}, new int[0], new int[0][]);
            x.sheet(4, form, 2);
            x.put(4, form, 1, 200);
            Due.due("12: 200 of FORM " + form, x.read(4, 0), form == 0 ? Due.NOT : 0);
            x.put(4, form, 1, 127);
            Due.due("12: 127 of FORM " + form, x.read(4, 0), form == 0 ? 0 : 1);
        }
    }

    private static void readAgain() {
        JoineryFloor x = sheetOf(0, 2, 1, 3);
        for (int p = 0; p < 12; p++) Due.due("12: again", x.read(0, p % 10), p);
        Due.due("12: a thirteenth", x.read(0, 0), Due.FULL);
        Due.due("12: the sheet stays", x.at(0, 3), 3);
        Due.due("12: 24 steps", x.count(2), 24);
        for (int s = 0; s < 24; s++) {
            Due.due("12: its PIECE", x.told(s, 0), s / 2);
            Due.due("12: last in THE ORDER", x.told(s, 4), s / 2);
        }
    }

    /** Each call that names CODES sets it, to 0 too; refused ones and all others leave it. */
    private static void codeOfLatest() {
        JoineryFloor x = sheetOf(0, 2);
        int[][] calls = {{7, 0, 0, -1, 4}, {7, 1, 0, 3, 0}, {10, 5, 0, 0, 1}, {10, 0, 0, 0, 0}, {9, 0, 1, 0, 2},
            {9, 0, 2, 1, 0}, {10, 0, 2, 0, 3}, {12, 0, 0, 0, 0}, {12, 1, 0, 0, 3}, {12, 5, 0, 0, 1}};
        for (int[] c : calls) {
            if (c[0] == 7) x.sheet(c[1], c[2], c[3]);
            if (c[0] == 9) x.put(c[1], c[2], c[3], 5);
            if (c[0] == 10) x.at(c[1], c[2]);
            if (c[0] == 12) x.read(c[1], 0);
            dueCode("13: promise " + c[0], x, c[4]);
            refuseAll(x);
            dueCode("13: behind refusals", x, c[4]);
        }
        x.copy(0, 0, 1, 0, 0);
        dueCode("13: promise 11", x, 2);
        refuseAll(x);
        dueCode("13: behind refusals", x, 2);
        x.copy(0, 0, 0, 0, 2);
        dueCode("13: promise 11", x, 0);
    }

    private static void refuseAll(JoineryFloor x) {
        Due.due("13: refused", x.sheet(0, 3, -1), Due.OUTSIDE);
        Due.due("13: refused", x.sheet(0, 0, 41), Due.OUTSIDE);
        Due.due("13: refused", x.tear(6), Due.UNKNOWN);
        Due.due("13: refused", x.put(5, 3, 0, 0), Due.OUTSIDE);
        Due.due("13: refused", x.at(6, 0), Due.UNKNOWN);
        Due.due("13: refused", x.copy(0, 0, 6, 0, 0), Due.UNKNOWN);
        Due.due("13: refused", x.read(5, 10), Due.OUTSIDE);
        Due.due("13: tear names none", x.tear(4), 0);
        x.end();
        x.rule(0);
    }
}
