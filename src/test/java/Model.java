import java.util.ArrayList;
import java.util.Arrays;
import java.util.List;

/**
 * The document once more, as literally and slowly as it can be said, to compare the class with. It shares no code and
 * no way of working with it: moments are walked one by one, days are raised till nothing moves, orders are all tried.
 */
final class Model {
    static final int NONE = -1, UNKNOWN = -100001, OUTSIDE = -100002, NOT = -100003, FULL = -100004;

    static final class Step {
        final int piece, machine, span, rank;

        Step(int piece, int machine, int span, int rank) {
            this.piece = piece;
            this.machine = machine;
            this.span = span;
            this.rank = rank;
        }
    }

    static final class Sheet {
        final int form;
        final int[] places;

        Sheet(int form, int n) {
            this.form = form;
            this.places = new int[n];
        }
    }

    final List<int[]> machines = new ArrayList<>();
    final List<Integer> pieces = new ArrayList<>();
    final List<Step> steps = new ArrayList<>();
    List<List<Integer>> orders = new ArrayList<>();
    final Sheet[] sheets = new Sheet[6];
    int code = 0;

    int[] head = new int[0], dead = new int[0];
    boolean[][] ahead = new boolean[0][0];
    int best = 0, cases = 0, finds = 0;
    int[] mendedBegin = new int[0];
    boolean[] mendedStay = new boolean[0];

    // ---- the floor

    int machine(int kind, int with) {
        if (kind < 0 || kind > 3) return OUTSIDE;
        if (kind == 2 && (with < 0 || with > 100)) return OUTSIDE;
        if (kind == 3 && (with < 1 || with > 4)) return OUTSIDE;
        if (machines.size() == 8) return FULL;
        machines.add(new int[] {kind, with});
        orders.add(new ArrayList<>());
        return machines.size() - 1;
    }

    int piece(int sort) {
        if (sort < 0 || sort > 9) return OUTSIDE;
        if (pieces.size() == 12) return FULL;
        pieces.add(sort);
        return pieces.size() - 1;
    }

    int step(int piece, int machine, int span) {
        if (piece < 0 || piece >= pieces.size() || machine < 0 || machine >= machines.size()) return UNKNOWN;
        if (span < 1 || span > 1000) return OUTSIDE;
        int rank = line(piece).size();
        if (rank == 8 || steps.size() == 32) return FULL;
        steps.add(new Step(piece, machine, span, rank));
        orders.get(machine).add(steps.size() - 1);
        return steps.size() - 1;
    }

    List<Integer> line(int piece) {
        List<Integer> line = new ArrayList<>();
        for (int s = 0; s < steps.size(); s++) if (steps.get(s).piece == piece) line.add(s);
        return line;
    }

    List<Integer> on(int machine) {
        List<Integer> on = new ArrayList<>();
        for (int s = 0; s < steps.size(); s++) if (steps.get(s).machine == machine) on.add(s);
        return on;
    }

    boolean noStep(int s) {
        return s < 0 || s >= steps.size();
    }

    int told(int s, int what) {
        if (noStep(s)) return UNKNOWN;
        if (what < 0 || what > 4) return OUTSIDE;
        Step step = steps.get(s);
        int[] all = {step.piece, step.machine, step.span, step.rank, orders.get(step.machine).indexOf(s)};
        return all[what];
    }

    boolean simple() {
        for (Step s : steps) if (machines.get(s.machine)[0] > 1) return false;
        return true;
    }

    int count(int what) {
        if (what < 0 || what > 4) return OUTSIDE;
        int sum = 0;
        for (Step s : steps) sum += s.span;
        int[] all = {machines.size(), pieces.size(), steps.size(), simple() ? 1 : 0, sum};
        return all[what];
    }

    // ---- sheets

    static boolean noSheet(int s) {
        return s < 0 || s > 5;
    }

    int sheet(int s, int form, int n) {
        if (noSheet(s)) return UNKNOWN;
        if (form < 0 || form > 2 || n > 40) return OUTSIDE;
        if (n < 0) {
            code = 4;
            return 0;
        }
        code = 0;
        sheets[s] = new Sheet(form, n);
        return n;
    }

    int tear(int s) {
        if (noSheet(s)) return UNKNOWN;
        int was = sheets[s] == null ? 0 : 1;
        sheets[s] = null;
        return was;
    }

    int put(int s, int form, int i, int v) {
        if (noSheet(s)) return UNKNOWN;
        if (form < 0 || form > 2) return OUTSIDE;
        if (sheets[s] == null) code = 1;
        else if (sheets[s].form != form) code = 2;
        else if (i < 0 || i >= sheets[s].places.length) code = 3;
        else code = 0;
        if (code != 0) return 0;
        int bits = form == 0 ? 8 : form == 1 ? 16 : 32;
        sheets[s].places[i] = v << (32 - bits) >> (32 - bits);
        return sheets[s].places[i];
    }

    int at(int s, int i) {
        if (noSheet(s)) return UNKNOWN;
        if (sheets[s] == null) code = 1;
        else if (i < 0 || i >= sheets[s].places.length) code = 3;
        else code = 0;
        return code != 0 ? 0 : sheets[s].places[i];
    }

    int copy(int s, int i, int r, int j, int n) {
        if (noSheet(s) || noSheet(r)) return UNKNOWN;
        if (sheets[s] == null || sheets[r] == null) code = 1;
        else if (sheets[s].form != sheets[r].form) code = 2;
        else if (i < 0 || j < 0 || n < 0) code = 3;
        else if ((long) i + n > sheets[s].places.length || (long) j + n > sheets[r].places.length) code = 3;
        else code = 0;
        if (code != 0) return 0;
        int[] was = sheets[s].places.clone();
        for (int k = 0; k < n; k++) sheets[r].places[j + k] = was[i + k];
        return 1;
    }

    int read(int s, int sort) {
        if (noSheet(s)) return UNKNOWN;
        if (sort < 0 || sort > 9) return OUTSIDE;
        if (sheets[s] == null) {
            code = 1;
            return 0;
        }
        int[] places = sheets[s].places;
        if (places.length % 2 == 1) {
            code = 3;
            return 0;
        }
        for (int k = 0; k < places.length; k += 2) {
            if (places[k] < 0 || places[k] >= machines.size()) return NOT;
            if (places[k + 1] < 1 || places[k + 1] > 1000) return NOT;
        }
        int n = places.length / 2;
        if (pieces.size() == 12 || n > 8 || steps.size() + n > 32) return FULL;
        code = 0;
        int p = piece(sort);
        for (int k = 0; k < places.length; k += 2) step(p, places[k], places[k + 1]);
        return p;
    }

    int code() {
        return code;
    }

    // ---- days

    List<Integer> waitsFor(int s, List<List<Integer>> by) {
        List<Integer> all = new ArrayList<>();
        Step step = steps.get(s);
        if (step.rank > 0) all.add(line(step.piece).get(step.rank - 1));
        int place = by.get(step.machine).indexOf(s);
        if (machines.get(step.machine)[0] != 1 && place > 0) all.add(by.get(step.machine).get(place - 1));
        return all;
    }

    boolean ring(List<List<Integer>> by) {
        // by taking away, again and again, what waits for nothing that is left
        List<Integer> left = new ArrayList<>();
        for (List<Integer> row : by) left.addAll(row);
        boolean moved = true;
        while (moved) {
            moved = false;
            for (int k = left.size() - 1; k >= 0; k--) {
                boolean free = true;
                for (int w : waitsFor(left.get(k), by)) if (left.contains(w)) free = false;
                if (free) {
                    left.remove(k);
                    moved = true;
                }
            }
        }
        return !left.isEmpty();
    }

    /** BEGINS of the steps that stand in the orders; others have -1. stay: moments that are kept, or null. */
    int[] begins(List<List<Integer>> by, Integer[] stay, int[] notBelow) {
        int[] begin = new int[steps.size()];
        Arrays.fill(begin, -1);
        for (List<Integer> row : by) for (int s : row) begin[s] = 0;
        boolean moved = true;
        while (moved) {
            moved = false;
            for (int s = 0; s < begin.length; s++) {
                if (begin[s] < 0) continue;
                int due;
                if (stay != null && stay[s] != null) due = stay[s];
                else due = dueBegin(s, by, begin, notBelow == null ? 0 : notBelow[steps.get(s).machine]);
                if (due != begin[s]) {
                    begin[s] = due;
                    moved = true;
                }
            }
        }
        return begin;
    }

    int dueBegin(int s, List<List<Integer>> by, int[] begin, int notBelow) {
        Step step = steps.get(s);
        int due = notBelow;
        if (step.rank > 0) {
            int w = line(step.piece).get(step.rank - 1);
            due = Math.max(due, begin[w] + steps.get(w).span);
        }
        int kind = machines.get(step.machine)[0];
        int with = machines.get(step.machine)[1];
        List<Integer> row = by.get(step.machine);
        int place = row.indexOf(s);
        if (kind == 1 || place == 0) return due;
        int w = row.get(place - 1);
        boolean unlike = !pieces.get(steps.get(w).piece).equals(pieces.get(step.piece));
        if (kind == 0) due = Math.max(due, begin[w] + steps.get(w).span);
        if (kind == 2) due = Math.max(due, begin[w] + steps.get(w).span + (unlike ? with : 0));
        if (kind == 3) {
            due = Math.max(due, begin[w]);
            while (true) {
                int busy = 0;
                for (int k = 0; k < place; k++) if (begin[row.get(k)] + steps.get(row.get(k)).span > due) busy++;
                if (busy < with) break;
                due++;
            }
        }
        return due;
    }

    int endOf(int[] begin) {
        int end = 0;
        for (int s = 0; s < begin.length; s++) if (begin[s] >= 0) end = Math.max(end, begin[s] + steps.get(s).span);
        return end;
    }

    List<List<Integer>> copyOf(List<List<Integer>> by) {
        List<List<Integer>> made = new ArrayList<>();
        for (List<Integer> row : by) made.add(new ArrayList<>(row));
        return made;
    }

    List<List<Integer>> swapped(int m, int i) {
        List<List<Integer>> made = copyOf(orders);
        made.get(m).add(i, made.get(m).remove(i + 1));
        return made;
    }

    int swap(int m, int i) {
        if (m < 0 || m >= machines.size()) return UNKNOWN;
        if (i < 0 || i >= orders.get(m).size() - 1) return OUTSIDE;
        if (machines.get(m)[0] == 1) return NOT;
        List<List<Integer>> made = swapped(m, i);
        if (!ring(orders) && ring(made)) return 0;
        orders = made;
        return 1;
    }

    int lay(int s, int i) {
        if (noStep(s)) return UNKNOWN;
        List<Integer> row = orders.get(steps.get(s).machine);
        if (i < 0 || i >= row.size()) return OUTSIDE;
        row.remove(Integer.valueOf(s));
        row.add(i, s);
        return ring(orders) ? 0 : 1;
    }

    int end() {
        return ring(orders) ? NONE : endOf(begins(orders, null, null));
    }

    int begin(int s) {
        if (noStep(s)) return UNKNOWN;
        return ring(orders) ? NOT : begins(orders, null, null)[s];
    }

    int behindInPiece(int s) {
        List<Integer> line = line(steps.get(s).piece);
        int rank = steps.get(s).rank;
        return rank + 1 < line.size() ? line.get(rank + 1) : -1;
    }

    int behindInOrder(int s) {
        int m = steps.get(s).machine;
        if (machines.get(m)[0] != 0) return -1;
        int place = orders.get(m).indexOf(s);
        return place + 1 < orders.get(m).size() ? orders.get(m).get(place + 1) : -1;
    }

    /** By raising, till nothing moves. */
    int[] tails() {
        int[] tail = new int[steps.size()];
        boolean moved = true;
        while (moved) {
            moved = false;
            for (int s = 0; s < tail.length; s++) {
                for (int next : new int[] {behindInPiece(s), behindInOrder(s)}) {
                    if (next >= 0 && steps.get(next).span + tail[next] > tail[s]) {
                        tail[s] = steps.get(next).span + tail[next];
                        moved = true;
                    }
                }
            }
        }
        return tail;
    }

    int[] slacks() {
        int[] begin = begins(orders, null, null);
        int[] slack = tails();
        int end = endOf(begin);
        for (int s = 0; s < slack.length; s++) slack[s] = end - begin[s] - steps.get(s).span - slack[s];
        return slack;
    }

    int tail(int s, int what) {
        if (noStep(s)) return UNKNOWN;
        if (what < 0 || what > 1) return OUTSIDE;
        if (!simple() || ring(orders)) return NOT;
        return what == 0 ? tails()[s] : slacks()[s];
    }

    int row(int i) {
        if (!simple() || ring(orders)) return NOT;
        int[] begin = begins(orders, null, null);
        int[] slack = slacks();
        List<Integer> row = new ArrayList<>();
        int at = -1;
        for (int s = steps.size() - 1; s >= 0; s--) if (begin[s] == 0 && slack[s] == 0) at = s;
        while (at >= 0) {
            row.add(at);
            int end = begin[at] + steps.get(at).span;
            int next = -1;
            for (int to : new int[] {behindInOrder(at), behindInPiece(at)}) {
                if (to >= 0 && begin[to] == end && slack[to] == 0) next = to;
            }
            at = next;
        }
        return i < 0 || i >= row.size() ? NONE : row.get(i);
    }

    int rule(int k) {
        if (k < 0 || k > 2) return OUTSIDE;
        List<List<Integer>> made = new ArrayList<>();
        for (int m = 0; m < machines.size(); m++) made.add(new ArrayList<>());
        int[] taken = new int[pieces.size()];
        for (int n = 0; n < steps.size(); n++) {
            int pick = -1;
            long pickKey = Long.MAX_VALUE;
            for (int p = 0; p < pieces.size(); p++) {
                List<Integer> line = line(p);
                if (taken[p] == line.size()) continue;
                int s = line.get(taken[p]);
                List<List<Integer>> tried = copyOf(made);
                tried.get(steps.get(s).machine).add(s);
                int moment = begins(tried, null, null)[s];
                int left = 0;
                for (int x = taken[p]; x < line.size(); x++) left += steps.get(line.get(x)).span;
                int second = k == 0 ? steps.get(s).span : k == 1 ? 100000 - left : 0;
                long key = (moment * 1000000L + second) * 100L + p;
                if (key < pickKey) {
                    pickKey = key;
                    pick = s;
                }
            }
            made.get(steps.get(pick).machine).add(pick);
            taken[steps.get(pick).piece]++;
        }
        orders = made;
        return end();
    }

    int better(int n) {
        if (n < 0 || n > 50) return OUTSIDE;
        if (!simple() || ring(orders)) return NOT;
        for (int done = 0; done < n; done++) {
            int[] begin = begins(orders, null, null);
            int[] slack = slacks();
            int least = endOf(begin);
            List<List<Integer>> pick = null;
            for (int m = 0; m < machines.size(); m++) {
                if (machines.get(m)[0] != 0) continue;
                for (int i = 0; i + 1 < orders.get(m).size(); i++) {
                    int f = orders.get(m).get(i), g = orders.get(m).get(i + 1);
                    if (slack[f] != 0 || slack[g] != 0 || begin[f] + steps.get(f).span != begin[g]) continue;
                    List<List<Integer>> made = swapped(m, i);
                    if (ring(made)) continue;
                    int end = endOf(begins(made, null, null));
                    if (end < least) {
                        least = end;
                        pick = made;
                    }
                }
            }
            if (pick == null) return done;
            orders = pick;
        }
        return n;
    }

    // ---- windows, bounds, the least day

    static final class Win {
        int[] head, dead;
        boolean[][] ahead;
        boolean burst;
    }

    Win ask(int t, boolean[][] told) {
        int n = steps.size();
        Win w = new Win();
        w.head = new int[n];
        w.dead = new int[n];
        Arrays.fill(w.dead, t);
        w.ahead = new boolean[n][];
        for (int f = 0; f < n; f++) w.ahead[f] = told[f].clone();
        for (int round = 0; round < 20; round++) {
            int[] headWas = w.head.clone(), deadWas = w.dead.clone();
            int pairsWas = pairs(w.ahead);
            roundOf(w);
            if (w.burst) return w;
            boolean same = Arrays.equals(headWas, w.head) && Arrays.equals(deadWas, w.dead);
            if (same && pairsWas == pairs(w.ahead)) return w;
        }
        return w;
    }

    static int pairs(boolean[][] ahead) {
        int sum = 0;
        for (boolean[] row : ahead) for (boolean one : row) if (one) sum++;
        return sum;
    }

    void roundOf(Win w) {
        for (int p = 0; p < pieces.size(); p++) {
            List<Integer> line = line(p);
            for (int x = 1; x < line.size(); x++) {
                int a = line.get(x - 1), b = line.get(x);
                w.head[b] = Math.max(w.head[b], w.head[a] + steps.get(a).span);
            }
            for (int x = line.size() - 1; x >= 1; x--) {
                int a = line.get(x - 1), b = line.get(x);
                w.dead[a] = Math.min(w.dead[a], w.dead[b] - steps.get(b).span);
            }
        }
        if (narrow(w)) return;
        for (int f = 0; f < steps.size(); f++) {
            for (int g = 0; g < steps.size(); g++) {
                if (!w.ahead[f][g]) continue;
                w.head[g] = Math.max(w.head[g], w.head[f] + steps.get(f).span);
                w.dead[f] = Math.min(w.dead[f], w.dead[g] - steps.get(g).span);
            }
        }
        if (narrow(w)) return;
        for (int m = 0; m < machines.size(); m++) {
            if (machines.get(m)[0] != 0) continue;
            for (int f : on(m)) {
                for (int g : on(m)) {
                    if (f >= g || w.ahead[f][g] || w.ahead[g][f]) continue;
                    int spans = steps.get(f).span + steps.get(g).span;
                    boolean fCannot = w.head[f] + spans > w.dead[g];
                    boolean gCannot = w.head[g] + spans > w.dead[f];
                    if (fCannot && gCannot) {
                        w.burst = true;
                        return;
                    }
                    if (fCannot) w.ahead[g][f] = true;
                    if (gCannot) w.ahead[f][g] = true;
                }
            }
        }
        if (narrow(w)) return;
        for (int m = 0; m < machines.size(); m++) {
            if (machines.get(m)[0] != 0) continue;
            for (int f : on(m)) for (int g : on(m)) if (setBursts(w, m, f, g)) return;
        }
        narrow(w);
    }

    boolean narrow(Win w) {
        for (int s = 0; s < steps.size(); s++) if (w.dead[s] - w.head[s] < steps.get(s).span) w.burst = true;
        return w.burst;
    }

    boolean setBursts(Win w, int m, int f, int g) {
        int h = w.head[f], d = w.dead[g], all = 0;
        List<Integer> set = new ArrayList<>();
        for (int s : on(m)) {
            if (w.head[s] >= h && w.dead[s] <= d) {
                set.add(s);
                all += steps.get(s).span;
            }
        }
        if (set.isEmpty()) return false;
        if (all > d - h) {
            w.burst = true;
            return true;
        }
        for (int k : on(m)) {
            if (set.contains(k)) continue;
            int span = steps.get(k).span;
            if (Math.min(w.head[k], h) + all + span > d) w.head[k] = Math.max(w.head[k], h + all);
            if (h + all + span > Math.max(d, w.dead[k])) w.dead[k] = Math.min(w.dead[k], d - all);
        }
        return false;
    }

    int windows(int t) {
        if (t < 0 || t > 100000) return OUTSIDE;
        if (!simple()) return NOT;
        Win w = ask(t, new boolean[steps.size()][steps.size()]);
        head = w.head;
        dead = w.dead;
        ahead = w.ahead;
        return w.burst ? 0 : 1;
    }

    int window(int s, int what) {
        if (noStep(s)) return UNKNOWN;
        if (what < 0 || what > 2) return OUTSIDE;
        if (s >= head.length) return NONE;
        int pairs = 0;
        for (boolean one : ahead[s]) if (one) pairs++;
        return what == 0 ? head[s] : what == 1 ? dead[s] : pairs;
    }

    int must(int s, int o) {
        if (noStep(s) || noStep(o)) return UNKNOWN;
        if (s >= head.length || o >= head.length) return 0;
        return ahead[s][o] ? 1 : ahead[o][s] ? 2 : 0;
    }

    int spans(int s, boolean behind) {
        int sum = 0;
        for (int o : line(steps.get(s).piece)) {
            if (behind ? steps.get(o).rank > steps.get(s).rank : steps.get(o).rank < steps.get(s).rank) {
                sum += steps.get(o).span;
            }
        }
        return sum;
    }

    int bound(int m, int what) {
        if (m < 0 || m >= machines.size()) return UNKNOWN;
        if (what < 0 || what > 1) return OUTSIDE;
        if (machines.get(m)[0] != 0) return NOT;
        List<Integer> on = on(m);
        if (what == 1 && on.size() > 8) return NOT;
        if (on.isEmpty()) return 0;
        return what == 0 ? cut(on) : whole(on, new ArrayList<>());
    }

    int cut(List<Integer> on) {
        int[] left = new int[steps.size()];
        for (int s : on) left[s] = steps.get(s).span;
        int open = on.size(), worst = 0;
        for (int moment = 0; open > 0; moment++) {
            int work = -1;
            for (int s : on) {
                if (left[s] == 0 || spans(s, false) > moment) continue;
                if (work < 0 || spans(s, true) > spans(work, true)) work = s;
            }
            if (work < 0) continue;
            left[work]--;
            if (left[work] == 0) {
                open--;
                worst = Math.max(worst, moment + 1 + spans(work, true));
            }
        }
        return worst;
    }

    int whole(List<Integer> on, List<Integer> order) {
        if (order.size() == on.size()) {
            int moment = 0, worst = 0;
            for (int s : order) {
                moment = Math.max(moment, spans(s, false)) + steps.get(s).span;
                worst = Math.max(worst, moment + spans(s, true));
            }
            return worst;
        }
        int least = Integer.MAX_VALUE;
        for (int s : on) {
            if (order.contains(s)) continue;
            order.add(s);
            least = Math.min(least, whole(on, order));
            order.remove(order.size() - 1);
        }
        return least;
    }

    int least(int n) {
        if (n < 0 || n > 100) return OUTSIDE;
        if (!simple() || steps.isEmpty()) return NOT;
        best = ring(orders) ? count(4) + 1 : end();
        cases = 0;
        finds = 0;
        return caseEnds(new boolean[steps.size()][steps.size()], n) ? 1 : 0;
    }

    /** Whether the search goes on behind this case. */
    boolean caseEnds(boolean[][] told, int most) {
        if (cases == most) return false;
        cases++;
        Win w = ask(best - 1, told);
        if (w.burst) return true;
        for (int f = 0; f < steps.size(); f++) {
            for (int g = f + 1; g < steps.size(); g++) {
                int m = steps.get(f).machine;
                if (steps.get(g).machine != m || machines.get(m)[0] != 0) continue;
                if (w.ahead[f][g] || w.ahead[g][f]) continue;
                return caseEnds(with(w.ahead, f, g), most) && caseEnds(with(w.ahead, g, f), most);
            }
        }
        List<List<Integer>> made = copyOf(orders);
        for (int m = 0; m < machines.size(); m++) {
            if (machines.get(m)[0] != 0) continue;
            made.set(m, on(m));
            made.get(m).sort((a, b) -> aheadOf(w, a) != aheadOf(w, b) ? aheadOf(w, a) - aheadOf(w, b) : a - b);
        }
        if (!ring(made) && endOf(begins(made, null, null)) < best) {
            best = endOf(begins(made, null, null));
            orders = made;
            finds++;
        }
        return true;
    }

    int aheadOf(Win w, int s) {
        int sum = 0;
        for (int f = 0; f < steps.size(); f++) if (w.ahead[f][s]) sum++;
        return sum;
    }

    static boolean[][] with(boolean[][] ahead, int f, int g) {
        boolean[][] made = new boolean[ahead.length][];
        for (int k = 0; k < ahead.length; k++) made[k] = ahead[k].clone();
        made[f][g] = true;
        return made;
    }

    int found(int what) {
        if (what < 0 || what > 2) return OUTSIDE;
        return what == 0 ? best : what == 1 ? cases : finds;
    }

    // ---- machines that fail

    int fail(int m, int t, int d) {
        if (m < 0 || m >= machines.size()) return UNKNOWN;
        if (t < 0 || t > 100000 || d < 0 || d > 10000) return OUTSIDE;
        if (ring(orders)) return NOT;
        int[] begin = begins(orders, null, null);
        Integer[] stay = new Integer[steps.size()];
        int[] notBelow = new int[machines.size()];
        Arrays.fill(notBelow, t);
        notBelow[m] = t + d;
        mendedStay = new boolean[steps.size()];
        for (int s = 0; s < steps.size(); s++) {
            int end = begin[s] + steps.get(s).span;
            boolean underWay = begin[s] < t && end > t;
            mendedStay[s] = end <= t || (underWay && steps.get(s).machine != m);
            if (mendedStay[s]) stay[s] = begin[s];
        }
        mendedBegin = begins(orders, stay, notBelow);
        return endOf(mendedBegin);
    }

    int mended(int s, int what) {
        if (noStep(s)) return UNKNOWN;
        if (what < 0 || what > 1) return OUTSIDE;
        if (s >= mendedBegin.length) return NONE;
        return what == 0 ? mendedBegin[s] : mendedStay[s] ? 1 : 0;
    }
}
