import java.util.Arrays;

/**
 * A joinery floor: pieces that go from machine to machine, the days that their orders give, and what can be said of
 * these days. All rows are made in constructors, so that no later call makes an object.
 */
public final class JoineryFloor {
    public static final int NONE = -1, UNKNOWN = -100001, OUTSIDE = -100002, NOT = -100003, FULL = -100004;

    private static final int PLAIN = 0, DRYING = 1, SETTING = 2, CREW = 3;
    private static final int MOST_MACHINES = 8, MOST_PIECES = 12, MOST_STEPS = 32, MOST_OF_PIECE = 8;
    private static final int MOST_SORT = 9, MOST_SPAN = 1000, MOST_GAP = 100, MOST_HANDS = 4;
    private static final int MOST_SHEETS = 6, MOST_FORM = 2, MOST_PLACES = 40;
    private static final int NO_ROW = 1, OTHER_FORM = 2, NO_PLACE = 3, BELOW_ZERO = 4;
    private static final int MOST_RULE = 2, LEAST_SPAN = 0, MOST_LEFT = 1, MOST_SWAPS = 50;
    private static final int MOST_TIME = 100000, MOST_REPAIR = 10000;
    private static final int MOST_ROUNDS = 20, MOST_CASES = 100, MOST_WHOLE = 8;
    // far above what spans of 32 steps can come to
    private static final int ABOVE_BOUNDS = 1000000;

    private final Floor floor;
    private final Orders orders;
    private final Sheets sheets;
    private final Day day;
    private final Day trial;
    private final Windows asked;
    private final Bounds bounds;
    private final Search search;
    private final Day repaired;
    private int repairedSteps;

    public JoineryFloor() {
        floor = new Floor();
        orders = new Orders();
        sheets = new Sheets();
        day = new Day();
        trial = new Day();
        asked = new Windows();
        bounds = new Bounds();
        search = new Search();
        repaired = new Day();
        repairedSteps = 0;
    }

    // ---- the floor

    public int machine(int kind, int with) {
        if (isOut(kind, 0, CREW)) {
            return OUTSIDE;
        }
        if (kind == SETTING && isOut(with, 0, MOST_GAP)) {
            return OUTSIDE;
        }
        if (kind == CREW && isOut(with, 1, MOST_HANDS)) {
            return OUTSIDE;
        }
        if (floor.machines >= MOST_MACHINES) {
            return FULL;
        }
        return floor.addMachine(kind, with);
    }

    public int piece(int sort) {
        if (isOut(sort, 0, MOST_SORT)) {
            return OUTSIDE;
        }
        if (floor.pieces >= MOST_PIECES) {
            return FULL;
        }
        return floor.addPiece(sort);
    }

    public int step(int piece, int machine, int span) {
        if (isOut(piece, 0, floor.pieces - 1) || !isMachine(machine)) {
            return UNKNOWN;
        }
        if (isOut(span, 1, MOST_SPAN)) {
            return OUTSIDE;
        }
        if (floor.lineSize[piece] >= MOST_OF_PIECE || floor.steps >= MOST_STEPS) {
            return FULL;
        }
        return addStep(piece, machine, span);
    }

    public int told(int step, int what) {
        if (!isStep(step)) {
            return UNKNOWN;
        }
        switch (what) {
            case 0:
                return floor.pieceOf[step];
            case 1:
                return floor.machineOf[step];
            case 2:
                return floor.span[step];
            case 3:
                return floor.rank[step];
            case 4:
                return orders.placeOf(floor.machineOf[step], step);
            default:
                return OUTSIDE;
        }
    }

    public int count(int what) {
        switch (what) {
            case 0:
                return floor.machines;
            case 1:
                return floor.pieces;
            case 2:
                return floor.steps;
            case 3:
                return floor.isSimple() ? 1 : 0;
            case 4:
                return floor.allSpans();
            default:
                return OUTSIDE;
        }
    }

    // ---- sheets

    public int sheet(int s, int form, int n) {
        if (!isSheet(s)) {
            return UNKNOWN;
        }
        if (isOut(form, 0, MOST_FORM) || n > MOST_PLACES) {
            return OUTSIDE;
        }
        sheets.code = n < 0 ? BELOW_ZERO : 0;
        if (sheets.code != 0) {
            return 0;
        }
        sheets.make(s, form, n);
        return n;
    }

    public int tear(int s) {
        if (!isSheet(s)) {
            return UNKNOWN;
        }
        int was = sheets.isThere(s) ? 1 : 0;
        sheets.remove(s);
        return was;
    }

    public int put(int s, int form, int i, int v) {
        if (!isSheet(s)) {
            return UNKNOWN;
        }
        if (isOut(form, 0, MOST_FORM)) {
            return OUTSIDE;
        }
        sheets.code = sheets.codeOfPut(s, form, i);
        if (sheets.code != 0) {
            return 0;
        }
        sheets.places[s][i] = Sheets.cutTo(form, v);
        return sheets.places[s][i];
    }

    public int at(int s, int i) {
        if (!isSheet(s)) {
            return UNKNOWN;
        }
        sheets.code = sheets.codeOfPlace(s, i);
        return sheets.code != 0 ? 0 : sheets.places[s][i];
    }

    public int copy(int s, int i, int r, int j, int n) {
        if (!isSheet(s) || !isSheet(r)) {
            return UNKNOWN;
        }
        sheets.code = sheets.codeOfCopy(s, i, r, j, n);
        if (sheets.code != 0) {
            return 0;
        }
        System.arraycopy(sheets.places[s], i, sheets.places[r], j, n);
        return 1;
    }

    public int read(int s, int sort) {
        if (!isSheet(s)) {
            return UNKNOWN;
        }
        if (isOut(sort, 0, MOST_SORT)) {
            return OUTSIDE;
        }
        int met = sheets.codeOfRead(s);
        if (met != 0) {
            sheets.code = met;
            return 0;
        }
        int steps = sheets.size[s] / 2;
        if (!holdsSteps(sheets.places[s], steps)) {
            return NOT;
        }
        if (floor.pieces >= MOST_PIECES || steps > MOST_OF_PIECE || floor.steps + steps > MOST_STEPS) {
            return FULL;
        }
        sheets.code = 0;
        return addPieceBy(sort, sheets.places[s], steps);
    }

    public int code() {
        return sheets.code;
    }

    // ---- days

    public int swap(int m, int i) {
        if (!isMachine(m)) {
            return UNKNOWN;
        }
        if (isOut(i, 0, orders.size[m] - 2)) {
            return OUTSIDE;
        }
        if (floor.kind[m] == DRYING) {
            return NOT;
        }
        boolean hadDay = day.work(floor, orders);
        orders.exchange(m, i);
        if (hadDay && !day.work(floor, orders)) {
            orders.exchange(m, i);
            return 0;
        }
        return 1;
    }

    public int lay(int s, int i) {
        if (!isStep(s)) {
            return UNKNOWN;
        }
        int m = floor.machineOf[s];
        if (isOut(i, 0, orders.size[m] - 1)) {
            return OUTSIDE;
        }
        orders.move(m, orders.placeOf(m, s), i);
        return day.work(floor, orders) ? 1 : 0;
    }

    public int end() {
        return day.work(floor, orders) ? day.end : NONE;
    }

    public int begin(int step) {
        if (!isStep(step)) {
            return UNKNOWN;
        }
        return day.work(floor, orders) ? day.begins[step] : NOT;
    }

    public int tail(int step, int what) {
        if (!isStep(step)) {
            return UNKNOWN;
        }
        if (isOut(what, 0, 1)) {
            return OUTSIDE;
        }
        if (!hasTails()) {
            return NOT;
        }
        return what == 0 ? day.tails[step] : day.slack(floor, step);
    }

    public int row(int i) {
        if (!hasTails()) {
            return NOT;
        }
        if (isOut(i, 0, floor.steps - 1)) {
            return NONE;
        }
        int step = day.firstOfRow(floor);
        for (int k = 0; k < i && step != NONE; k++) {
            step = day.nextOfRow(floor, step);
        }
        return step;
    }

    public int rule(int k) {
        if (isOut(k, 0, MOST_RULE)) {
            return OUTSIDE;
        }
        orders.clear();
        day.clear();
        for (int taken = 0; taken < floor.steps; taken++) {
            int step = pickBy(k);
            if (step != NONE) {
                int moment = day.earliest(floor, orders, step);
                orders.append(floor.machineOf[step], step);
                day.set(floor, orders, step, moment);
            }
        }
        return day.end;
    }

    public int better(int n) {
        if (isOut(n, 0, MOST_SWAPS)) {
            return OUTSIDE;
        }
        if (!hasTails()) {
            return NOT;
        }
        int done = 0;
        while (done < n && shorten()) {
            done++;
        }
        return done;
    }

    // ---- windows, bounds, the least day

    public int windows(int t) {
        if (isOut(t, 0, MOST_TIME)) {
            return OUTSIDE;
        }
        if (!floor.isSimple()) {
            return NOT;
        }
        Arrays.fill(asked.ahead, 0);
        return asked.narrow(floor, t) ? 1 : 0;
    }

    public int window(int step, int what) {
        if (!isStep(step)) {
            return UNKNOWN;
        }
        if (isOut(what, 0, 2)) {
            return OUTSIDE;
        }
        if (step >= asked.steps) {
            return NONE;
        }
        if (what == 0) {
            return asked.head[step];
        }
        return what == 1 ? asked.dead[step] : Integer.bitCount(asked.ahead[step]);
    }

    public int must(int step, int other) {
        if (!isStep(step) || !isStep(other)) {
            return UNKNOWN;
        }
        if (asked.isAhead(step, other)) {
            return 1;
        }
        return asked.isAhead(other, step) ? 2 : 0;
    }

    public int bound(int m, int what) {
        if (!isMachine(m)) {
            return UNKNOWN;
        }
        if (isOut(what, 0, 1)) {
            return OUTSIDE;
        }
        if (floor.kind[m] != PLAIN || (what == 1 && floor.onSize[m] > MOST_WHOLE)) {
            return NOT;
        }
        bounds.takeJobs(floor, m);
        int cut = bounds.cutBound();
        return what == 0 ? cut : bounds.wholeBound(cut);
    }

    public int least(int n) {
        if (isOut(n, 0, MOST_CASES)) {
            return OUTSIDE;
        }
        if (!floor.isSimple() || floor.steps == 0) {
            return NOT;
        }
        search.best = day.work(floor, orders) ? day.end : floor.allSpans() + 1;
        return search.seek(floor, orders, n) ? 1 : 0;
    }

    public int found(int what) {
        switch (what) {
            case 0:
                return search.best;
            case 1:
                return search.cases;
            case 2:
                return search.finds;
            default:
                return OUTSIDE;
        }
    }

    // ---- machines that fail

    public int fail(int m, int t, int d) {
        if (!isMachine(m)) {
            return UNKNOWN;
        }
        if (isOut(t, 0, MOST_TIME) || isOut(d, 0, MOST_REPAIR)) {
            return OUTSIDE;
        }
        if (!day.work(floor, orders)) {
            return NOT;
        }
        Arrays.fill(repaired.notBelow, t);
        repaired.notBelow[m] = t + d;
        for (int step = 0; step < floor.steps; step++) {
            repaired.fixed[step] = stays(step, m, t) ? day.begins[step] : NONE;
        }
        repaired.work(floor, orders);
        repairedSteps = floor.steps;
        return repaired.end;
    }

    public int mended(int step, int what) {
        if (!isStep(step)) {
            return UNKNOWN;
        }
        if (isOut(what, 0, 1)) {
            return OUTSIDE;
        }
        if (step >= repairedSteps) {
            return NONE;
        }
        if (what == 0) {
            return repaired.begins[step];
        }
        return repaired.fixed[step] != NONE ? 1 : 0;
    }

    // ---- what the calls share

    private static boolean isOut(int number, int least, int greatest) {
        return number < least || number > greatest;
    }

    private boolean isMachine(int m) {
        return !isOut(m, 0, floor.machines - 1);
    }

    private boolean isStep(int step) {
        return !isOut(step, 0, floor.steps - 1);
    }

    private static boolean isSheet(int s) {
        return !isOut(s, 0, MOST_SHEETS - 1);
    }

    private int addStep(int piece, int machine, int span) {
        int step = floor.addStep(piece, machine, span);
        orders.append(machine, step);
        return step;
    }

    private boolean holdsSteps(int[] numbers, int steps) {
        for (int k = 0; k < steps; k++) {
            if (!isMachine(numbers[2 * k]) || isOut(numbers[2 * k + 1], 1, MOST_SPAN)) {
                return false;
            }
        }
        return true;
    }

    private int addPieceBy(int sort, int[] numbers, int steps) {
        int piece = floor.addPiece(sort);
        for (int k = 0; k < steps; k++) {
            addStep(piece, numbers[2 * k], numbers[2 * k + 1]);
        }
        return piece;
    }

    private boolean hasTails() {
        if (!floor.isSimple() || !day.work(floor, orders)) {
            return false;
        }
        day.findTails(floor);
        return true;
    }

    private int pickBy(int k) {
        int picked = NONE;
        int pickedMoment = 0;
        int pickedRank = 0;
        for (int p = 0; p < floor.pieces; p++) {
            int step = day.nextOfPiece(floor, p);
            if (step != NONE) {
                int moment = day.earliest(floor, orders, step);
                int rank = rankBy(k, step);
                boolean goesAhead = moment < pickedMoment || (moment == pickedMoment && rank < pickedRank);
                if (picked == NONE || goesAhead) {
                    picked = step;
                    pickedMoment = moment;
                    pickedRank = rank;
                }
            }
        }
        return picked;
    }

    private int rankBy(int k, int step) {
        if (k == LEAST_SPAN) {
            return floor.span[step];
        }
        // the lesser rank goes ahead, so what is wanted great is turned round
        return k == MOST_LEFT ? -(floor.span[step] + floor.spansBehind(step)) : 0;
    }

    private boolean shorten() {
        if (!hasTails()) {
            return false;
        }
        int least = day.end;
        int machine = NONE;
        int place = NONE;
        for (int m = 0; m < floor.machines; m++) {
            for (int i = 0; i + 1 < orders.size[m]; i++) {
                if (isTight(m, i)) {
                    int end = endBySwap(m, i);
                    if (end != NONE && end < least) {
                        least = end;
                        machine = m;
                        place = i;
                    }
                }
            }
        }
        if (machine == NONE) {
            return false;
        }
        orders.exchange(machine, place);
        return true;
    }

    private boolean isTight(int m, int i) {
        if (floor.kind[m] != PLAIN) {
            return false;
        }
        int step = orders.rows[m][i];
        int next = orders.rows[m][i + 1];
        return day.slack(floor, step) == 0 && day.slack(floor, next) == 0
            && day.endOf(floor, step) == day.begins[next];
    }

    private int endBySwap(int m, int i) {
        orders.exchange(m, i);
        int end = trial.work(floor, orders) ? trial.end : NONE;
        orders.exchange(m, i);
        return end;
    }

    private boolean stays(int step, int m, int t) {
        if (day.endOf(floor, step) <= t) {
            return true;
        }
        return day.begins[step] < t && floor.machineOf[step] != m;
    }

    /** What stands on the floor. THE ORDERS are held apart, since a search tries others. */
    private static final class Floor {
        int machines;
        int pieces;
        int steps;
        final int[] kind = new int[MOST_MACHINES];
        final int[] with = new int[MOST_MACHINES];
        final int[] sort = new int[MOST_PIECES];
        final int[][] line = new int[MOST_PIECES][MOST_OF_PIECE];
        final int[] lineSize = new int[MOST_PIECES];
        final int[] pieceOf = new int[MOST_STEPS];
        final int[] machineOf = new int[MOST_STEPS];
        final int[] span = new int[MOST_STEPS];
        final int[] rank = new int[MOST_STEPS];
        // the steps of a machine by number, whatever its order is
        final int[][] on = new int[MOST_MACHINES][MOST_STEPS];
        final int[] onSize = new int[MOST_MACHINES];

        int addMachine(int itsKind, int itsWith) {
            int m = machines;
            kind[m] = itsKind;
            with[m] = itsWith;
            machines++;
            return m;
        }

        int addPiece(int itsSort) {
            int p = pieces;
            sort[p] = itsSort;
            pieces++;
            return p;
        }

        int addStep(int p, int m, int itsSpan) {
            int step = steps;
            pieceOf[step] = p;
            machineOf[step] = m;
            span[step] = itsSpan;
            rank[step] = lineSize[p];
            line[p][lineSize[p]] = step;
            lineSize[p]++;
            on[m][onSize[m]] = step;
            onSize[m]++;
            steps++;
            return step;
        }

        boolean isSimple() {
            for (int m = 0; m < machines; m++) {
                if (onSize[m] > 0 && kind[m] != PLAIN && kind[m] != DRYING) {
                    return false;
                }
            }
            return true;
        }

        int allSpans() {
            int sum = 0;
            for (int step = 0; step < steps; step++) {
                sum += span[step];
            }
            return sum;
        }

        int behindInPiece(int step) {
            int p = pieceOf[step];
            int next = rank[step] + 1;
            return next < lineSize[p] ? line[p][next] : NONE;
        }

        int spansAhead(int step) {
            int p = pieceOf[step];
            int sum = 0;
            for (int k = 0; k < rank[step]; k++) {
                sum += span[line[p][k]];
            }
            return sum;
        }

        int spansBehind(int step) {
            int p = pieceOf[step];
            int sum = 0;
            for (int k = rank[step] + 1; k < lineSize[p]; k++) {
                sum += span[line[p][k]];
            }
            return sum;
        }
    }

    /** THE ORDERS of all machines. */
    private static final class Orders {
        final int[][] rows = new int[MOST_MACHINES][MOST_STEPS];
        final int[] size = new int[MOST_MACHINES];

        void clear() {
            Arrays.fill(size, 0);
        }

        void append(int m, int step) {
            rows[m][size[m]] = step;
            size[m]++;
        }

        void exchange(int m, int i) {
            int step = rows[m][i];
            rows[m][i] = rows[m][i + 1];
            rows[m][i + 1] = step;
        }

        void move(int m, int from, int to) {
            for (int i = from; i < to; i++) {
                exchange(m, i);
            }
            for (int i = from; i > to; i--) {
                exchange(m, i - 1);
            }
        }

        int placeOf(int m, int step) {
            int place = 0;
            for (int i = 0; i < size[m]; i++) {
                if (rows[m][i] == step) {
                    place = i;
                }
            }
            return place;
        }

        void takeFrom(Orders other) {
            for (int m = 0; m < MOST_MACHINES; m++) {
                System.arraycopy(other.rows[m], 0, rows[m], 0, MOST_STEPS);
            }
            System.arraycopy(other.size, 0, size, 0, MOST_MACHINES);
        }
    }

    /** The sheets, and the CODE of the latest call that names CODES. */
    private static final class Sheets {
        final int[] form = new int[MOST_SHEETS];
        final int[] size = new int[MOST_SHEETS];
        final int[][] places = new int[MOST_SHEETS][MOST_PLACES];
        int code;

        Sheets() {
            Arrays.fill(form, NONE);
        }

        static int cutTo(int form, int number) {
            if (form == 0) {
                return (byte) number;
            }
            return form == 1 ? (short) number : number;
        }

        void make(int s, int itsForm, int n) {
            form[s] = itsForm;
            size[s] = n;
            Arrays.fill(places[s], 0);
        }

        void remove(int s) {
            form[s] = NONE;
            size[s] = 0;
        }

        boolean isThere(int s) {
            return form[s] != NONE;
        }

        int codeOfPlace(int s, int i) {
            if (!isThere(s)) {
                return NO_ROW;
            }
            return i < 0 || i >= size[s] ? NO_PLACE : 0;
        }

        int codeOfPut(int s, int itsForm, int i) {
            if (isThere(s) && form[s] != itsForm) {
                return OTHER_FORM;
            }
            return codeOfPlace(s, i);
        }

        int codeOfCopy(int s, int i, int r, int j, int n) {
            if (!isThere(s) || !isThere(r)) {
                return NO_ROW;
            }
            if (form[s] != form[r]) {
                return OTHER_FORM;
            }
            return hasPlaces(s, i, n) && hasPlaces(r, j, n) ? 0 : NO_PLACE;
        }

        // by subtraction, since i + n might wrap round
        private boolean hasPlaces(int s, int i, int n) {
            return i >= 0 && n >= 0 && n <= size[s] && i <= size[s] - n;
        }

        int codeOfRead(int s) {
            if (!isThere(s)) {
                return NO_ROW;
            }
            return size[s] % 2 != 0 ? NO_PLACE : 0;
        }
    }

    /**
     * A day, laid step by step: a step is laid when those ahead of it in its piece and in its machine's order are. A
     * mended day is laid likewise, with steps that keep their moments and machines that begin later.
     */
    private static final class Day {
        final int[] begins = new int[MOST_STEPS];
        final int[] tails = new int[MOST_STEPS];
        final int[] fixed = new int[MOST_STEPS];
        final int[] notBelow = new int[MOST_MACHINES];
        int end;
        private final int[] laidSteps = new int[MOST_STEPS];
        private int laid;
        private final int[] behindOnPlain = new int[MOST_STEPS];
        private final int[] laidOfPiece = new int[MOST_PIECES];
        private final int[] laidOnMachine = new int[MOST_MACHINES];
        private final int[] latestEnds = new int[MOST_HANDS];

        Day() {
            Arrays.fill(fixed, NONE);
        }

        void clear() {
            laid = 0;
            end = 0;
            Arrays.fill(behindOnPlain, NONE);
            Arrays.fill(laidOfPiece, 0);
            Arrays.fill(laidOnMachine, 0);
        }

        /** Whether there is a day; if not, there is a RING, and the rows hold no day. */
        boolean work(Floor floor, Orders orders) {
            clear();
            boolean moved = true;
            for (int pass = 0; pass < floor.steps && moved; pass++) {
                moved = false;
                for (int p = 0; p < floor.pieces; p++) {
                    int step = nextOfPiece(floor, p);
                    if (step != NONE && isNextOnMachine(floor, orders, step)) {
                        set(floor, orders, step, earliest(floor, orders, step));
                        moved = true;
                    }
                }
            }
            return laid == floor.steps;
        }

        int nextOfPiece(Floor floor, int p) {
            int next = laidOfPiece[p];
            return next < floor.lineSize[p] ? floor.line[p][next] : NONE;
        }

        private boolean isNextOnMachine(Floor floor, Orders orders, int step) {
            int m = floor.machineOf[step];
            int next = laidOnMachine[m];
            return floor.kind[m] == DRYING || (next < orders.size[m] && orders.rows[m][next] == step);
        }

        /** When a step can begin behind those that are laid. */
        int earliest(Floor floor, Orders orders, int step) {
            if (fixed[step] != NONE) {
                return fixed[step];
            }
            int m = floor.machineOf[step];
            int ahead = laidOnMachine[m];
            int moment = Math.max(notBelow[m], endAheadInPiece(floor, step));
            if (floor.kind[m] == DRYING || ahead == 0) {
                return moment;
            }
            int previous = orders.rows[m][ahead - 1];
            if (floor.kind[m] == CREW) {
                int hand = freeHand(floor, orders, m);
                return Math.max(moment, Math.max(begins[previous], hand));
            }
            return Math.max(moment, endOf(floor, previous) + pauseBetween(floor, previous, step));
        }

        private int endAheadInPiece(Floor floor, int step) {
            int rank = floor.rank[step];
            return rank == 0 ? 0 : endOf(floor, floor.line[floor.pieceOf[step]][rank - 1]);
        }

        private static int pauseBetween(Floor floor, int previous, int step) {
            int m = floor.machineOf[step];
            boolean alike = floor.sort[floor.pieceOf[previous]] == floor.sort[floor.pieceOf[step]];
            return floor.kind[m] == SETTING && !alike ? floor.with[m] : 0;
        }

        // fewer than HANDS have not ended from the HANDS-th latest end on
        private int freeHand(Floor floor, Orders orders, int m) {
            Arrays.fill(latestEnds, 0);
            for (int i = 0; i < laidOnMachine[m]; i++) {
                keepLatest(endOf(floor, orders.rows[m][i]));
            }
            return latestEnds[floor.with[m] - 1];
        }

        private void keepLatest(int moment) {
            int left = moment;
            for (int h = 0; h < MOST_HANDS; h++) {
                if (left > latestEnds[h]) {
                    int lesser = latestEnds[h];
                    latestEnds[h] = left;
                    left = lesser;
                }
            }
        }

        void set(Floor floor, Orders orders, int step, int moment) {
            int m = floor.machineOf[step];
            int ahead = laidOnMachine[m];
            begins[step] = moment;
            end = Math.max(end, endOf(floor, step));
            if (floor.kind[m] == PLAIN && ahead > 0) {
                behindOnPlain[orders.rows[m][ahead - 1]] = step;
            }
            laidSteps[laid] = step;
            laid++;
            laidOfPiece[floor.pieceOf[step]]++;
            laidOnMachine[m]++;
        }

        int endOf(Floor floor, int step) {
            return begins[step] + floor.span[step];
        }

        void findTails(Floor floor) {
            for (int k = laid - 1; k >= 0; k--) {
                int step = laidSteps[k];
                int byPiece = lengthFrom(floor, floor.behindInPiece(step));
                int byOrder = lengthFrom(floor, behindOnPlain[step]);
                tails[step] = Math.max(byPiece, byOrder);
            }
        }

        private int lengthFrom(Floor floor, int step) {
            return step == NONE ? 0 : floor.span[step] + tails[step];
        }

        int slack(Floor floor, int step) {
            return end - endOf(floor, step) - tails[step];
        }

        int firstOfRow(Floor floor) {
            for (int step = 0; step < floor.steps; step++) {
                if (begins[step] == 0 && slack(floor, step) == 0) {
                    return step;
                }
            }
            return NONE;
        }

        int nextOfRow(Floor floor, int step) {
            int inPiece = floor.behindInPiece(step);
            if (followsInRow(floor, step, inPiece)) {
                return inPiece;
            }
            int inOrder = behindOnPlain[step];
            return followsInRow(floor, step, inOrder) ? inOrder : NONE;
        }

        private boolean followsInRow(Floor floor, int step, int next) {
            return next != NONE && begins[next] == endOf(floor, step) && slack(floor, next) == 0;
        }
    }

    /** WINDOWS. The steps that a step is told AHEAD of are the bits of a number, since there are 32 steps at most. */
    private static final class Windows {
        final int[] head = new int[MOST_STEPS];
        final int[] dead = new int[MOST_STEPS];
        final int[] ahead = new int[MOST_STEPS];
        int steps;
        private boolean changed;
        private boolean burst;

        /** With what stands in the row ahead; whether there is no BURST. */
        boolean narrow(Floor floor, int time) {
            steps = floor.steps;
            Arrays.fill(head, 0);
            Arrays.fill(dead, time);
            burst = false;
            changed = true;
            for (int round = 0; round < MOST_ROUNDS && changed && !burst; round++) {
                changed = false;
                alongPieces(floor);
                lookForBurst(floor);
                if (!burst) {
                    alongPairs(floor);
                    lookForBurst(floor);
                }
                // telling pairs moves no HEAD and no DEAD, so it needs no look of its own
                if (!burst) {
                    tellPairs(floor);
                }
                if (!burst) {
                    closeSets(floor);
                    lookForBurst(floor);
                }
            }
            return !burst;
        }

        boolean isAhead(int f, int g) {
            return (ahead[f] >>> g & 1) != 0;
        }

        boolean isOpen(int f, int g) {
            return !isAhead(f, g) && !isAhead(g, f);
        }

        private void lookForBurst(Floor floor) {
            for (int step = 0; step < steps; step++) {
                if (dead[step] - head[step] < floor.span[step]) {
                    burst = true;
                }
            }
        }

        private void raise(int step, int moment) {
            if (head[step] < moment) {
                head[step] = moment;
                changed = true;
            }
        }

        private void lower(int step, int moment) {
            if (dead[step] > moment) {
                dead[step] = moment;
                changed = true;
            }
        }

        private void alongPieces(Floor floor) {
            for (int p = 0; p < floor.pieces; p++) {
                int[] line = floor.line[p];
                int size = floor.lineSize[p];
                for (int k = 1; k < size; k++) {
                    raise(line[k], head[line[k - 1]] + floor.span[line[k - 1]]);
                }
                for (int k = size - 1; k > 0; k--) {
                    lower(line[k - 1], dead[line[k]] - floor.span[line[k]]);
                }
            }
        }

        private void alongPairs(Floor floor) {
            for (int f = 0; f < steps; f++) {
                for (int g = 0; g < steps; g++) {
                    if (isAhead(f, g)) {
                        raise(g, head[f] + floor.span[f]);
                        lower(f, dead[g] - floor.span[g]);
                    }
                }
            }
        }

        private void tellPairs(Floor floor) {
            for (int m = 0; m < floor.machines; m++) {
                int size = floor.kind[m] == PLAIN ? floor.onSize[m] : 0;
                for (int a = 0; a < size; a++) {
                    for (int b = a + 1; b < size && !burst; b++) {
                        tellPair(floor, floor.on[m][a], floor.on[m][b]);
                    }
                }
            }
        }

        private void tellPair(Floor floor, int f, int g) {
            if (!isOpen(f, g)) {
                return;
            }
            int both = floor.span[f] + floor.span[g];
            boolean notF = head[f] + both > dead[g];
            boolean notG = head[g] + both > dead[f];
            if (notF && notG) {
                burst = true;
            } else if (notF) {
                tellAhead(g, f);
            } else if (notG) {
                tellAhead(f, g);
            }
        }

        private void tellAhead(int f, int g) {
            ahead[f] |= 1 << g;
            changed = true;
        }

        private void closeSets(Floor floor) {
            for (int m = 0; m < floor.machines; m++) {
                int size = floor.kind[m] == PLAIN ? floor.onSize[m] : 0;
                for (int a = 0; a < size; a++) {
                    for (int b = 0; b < size && !burst; b++) {
                        closeSet(floor, m, head[floor.on[m][a]], dead[floor.on[m][b]]);
                    }
                }
            }
        }

        // from and to are numbers, not steps: the set's moments stay what they were while its steps are looked at
        private void closeSet(Floor floor, int m, int from, int to) {
            int set = 0;
            int sum = 0;
            for (int a = 0; a < floor.onSize[m]; a++) {
                int step = floor.on[m][a];
                if (head[step] >= from && dead[step] <= to) {
                    set |= 1 << step;
                    sum += floor.span[step];
                }
            }
            if (set == 0) {
                return;
            }
            if (sum > to - from) {
                burst = true;
                return;
            }
            for (int a = 0; a < floor.onSize[m]; a++) {
                int step = floor.on[m][a];
                if ((set >>> step & 1) == 0) {
                    keepOff(step, floor.span[step], from, to, sum);
                }
            }
        }

        private void keepOff(int step, int span, int from, int to, int sum) {
            if (Math.min(head[step], from) + sum + span > to) {
                raise(step, from + sum);
            }
            if (from + sum + span > Math.max(to, dead[step])) {
                lower(step, to - sum);
            }
        }
    }

    /** BOUNDS of one machine; its steps, by number, are jobs here. */
    private static final class Bounds {
        private final int[] first = new int[MOST_STEPS];
        private final int[] last = new int[MOST_STEPS];
        private final int[] span = new int[MOST_STEPS];
        private final int[] left = new int[MOST_STEPS];
        private int jobs;

        void takeJobs(Floor floor, int m) {
            jobs = floor.onSize[m];
            for (int job = 0; job < jobs; job++) {
                int step = floor.on[m][job];
                first[job] = floor.spansAhead(step);
                last[job] = floor.spansBehind(step);
                span[job] = floor.span[step];
            }
        }

        // each turn ends a job or comes to a FIRST, so that twice the jobs are enough
        int cutBound() {
            System.arraycopy(span, 0, left, 0, MOST_STEPS);
            int moment = 0;
            int worst = 0;
            for (int turn = 0; turn < 2 * jobs; turn++) {
                int job = mostPressing(moment);
                int next = nextFirst(moment);
                int done = job == NONE ? next : moment + left[job];
                int until = next == NONE ? done : Math.min(done, next);
                if (until == NONE) {
                    return worst;
                }
                if (job != NONE) {
                    left[job] -= until - moment;
                    worst = left[job] == 0 ? Math.max(worst, until + last[job]) : worst;
                }
                moment = until;
            }
            return worst;
        }

        private int mostPressing(int moment) {
            int picked = NONE;
            for (int job = 0; job < jobs; job++) {
                boolean waits = left[job] > 0 && first[job] <= moment;
                if (waits && (picked == NONE || last[job] > last[picked])) {
                    picked = job;
                }
            }
            return picked;
        }

        private int nextFirst(int moment) {
            int next = NONE;
            for (int job = 0; job < jobs; job++) {
                if (first[job] > moment && (next == NONE || first[job] < next)) {
                    next = first[job];
                }
            }
            return next;
        }

        /** No order ends ahead of CUT, so one that ends with it needs no others to be tried. */
        int wholeBound(int cut) {
            return jobs == 0 || jobs > MOST_WHOLE ? 0 : tryRest(0, 0, 0, ABOVE_BOUNDS, cut, 0);
        }

        private int tryRest(int used, int moment, int worst, int best, int cut, int depth) {
            if (worst >= best) {
                return best;
            }
            if (depth >= jobs) {
                return worst;
            }
            int least = best;
            for (int job = 0; job < jobs && least > cut; job++) {
                if ((used >>> job & 1) == 0) {
                    int done = Math.max(moment, first[job]) + span[job];
                    int worse = Math.max(worst, done + last[job]);
                    least = tryRest(used | 1 << job, done, worse, least, cut, depth + 1);
                }
            }
            return least;
        }
    }

    /** THE LEAST DAY. Cases that wait are kept in a row, the next one last: a case adds at most one to them. */
    private static final class Search {
        int best;
        int cases;
        int finds;
        private int waits;
        private final int[][] waiting = new int[MOST_CASES + 1][MOST_STEPS];
        private final Windows windows = new Windows();
        private final Orders tried = new Orders();
        private final Day day = new Day();

        /** From the BEST that is set; whether all cases were over. */
        boolean seek(Floor floor, Orders orders, int most) {
            cases = 0;
            finds = 0;
            Arrays.fill(waiting[0], 0);
            waits = 1;
            while (waits > 0 && cases < most) {
                cases++;
                waits--;
                System.arraycopy(waiting[waits], 0, windows.ahead, 0, MOST_STEPS);
                if (windows.narrow(floor, best - 1) && !splitCase(floor)) {
                    tryOrders(floor, orders);
                }
            }
            return waits == 0;
        }

        private boolean splitCase(Floor floor) {
            for (int f = 0; f < floor.steps; f++) {
                for (int g = f + 1; g < floor.steps; g++) {
                    int m = floor.machineOf[f];
                    boolean meet = floor.machineOf[g] == m && floor.kind[m] == PLAIN;
                    if (meet && windows.isOpen(f, g)) {
                        addCase(g, f);
                        addCase(f, g);
                        return true;
                    }
                }
            }
            return false;
        }

        private void addCase(int f, int g) {
            if (waits < waiting.length) {
                System.arraycopy(windows.ahead, 0, waiting[waits], 0, MOST_STEPS);
                waiting[waits][f] |= 1 << g;
                waits++;
            }
        }

        private void tryOrders(Floor floor, Orders orders) {
            tried.takeFrom(orders);
            for (int m = 0; m < floor.machines; m++) {
                if (floor.kind[m] == PLAIN) {
                    orderMachine(floor, m);
                }
            }
            if (day.work(floor, tried) && day.end < best) {
                best = day.end;
                finds++;
                orders.takeFrom(tried);
            }
        }

        // each step goes ahead of those with more ahead of them; as they come by number, like ones stay so
        private void orderMachine(Floor floor, int m) {
            int[] row = tried.rows[m];
            for (int a = 0; a < floor.onSize[m]; a++) {
                int step = floor.on[m][a];
                int place = a;
                for (int i = a; i > 0 && aheadOf(floor, row[i - 1]) > aheadOf(floor, step); i--) {
                    row[i] = row[i - 1];
                    place = i - 1;
                }
                row[place] = step;
            }
        }

        private int aheadOf(Floor floor, int step) {
            int m = floor.machineOf[step];
            int sum = 0;
            for (int a = 0; a < floor.onSize[m]; a++) {
                sum += windows.isAhead(floor.on[m][a], step) ? 1 : 0;
            }
            return sum;
        }
    }
}
