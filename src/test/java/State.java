import java.util.ArrayList;
import java.util.Arrays;
import java.util.List;

/**
 * A state of a floor, with all that it answers: to every question, and to calls that go on from it. Each group of
 * questions has a new object, so that none of these is used for more calls than it is good for.
 */
final class State {
    interface Making {
        JoineryFloor make();
    }

    private static final class Question {
        final String name;
        final int[] arguments;

        Question(String name, int... arguments) {
            this.name = name;
            this.arguments = arguments;
        }

        int on(JoineryFloor x) {
            return Calls.on(x, name, arguments);
        }

        String text() {
            return Calls.text(name, arguments);
        }
    }

    private static final int MOST_OF_GROUP = 300;

    final String name;
    final int machines, pieces, steps;
    private final Making making;
    private final List<List<Question>> groups = new ArrayList<>();
    private final int[][] answers;

    State(String name, Making making) {
        this.name = name;
        this.making = making;
        JoineryFloor x = making.make();
        machines = x.count(0);
        pieces = x.count(1);
        steps = x.count(2);
        askFloor();
        askWindows();
        askSheets();
        goOn();
        answers = answersTo(new Question[0]);
    }

    JoineryFloor make() {
        return making.make();
    }

    /** It is refused, or answers that nothing came of it; and all is as it was ahead of it. */
    void dueRefused(int want, String call, int... a) {
        Question refused = new Question(call, a);
        Due.due(name + ": " + refused.text(), refused.on(make()), want);
        dueSame(refused.text(), answers, answersTo(refused));
    }

    /** It answers 0 and has a CODE, and all but CODE is as it was. at(5, 0) has CODE 1, as there is no sheet 5. */
    void dueCoded(int code, String call, int... a) {
        Question coded = new Question(call, a);
        Question sameCode = new Question("at", 5, 0);
        JoineryFloor x = make();
        Due.due(name + ": " + coded.text(), coded.on(x), 0);
        Due.due(name + ": CODE of " + coded.text(), x.code(), code);
        dueSame(coded.text(), answersTo(sameCode), answersTo(coded, sameCode));
    }

    private void dueSame(String call, int[][] were, int[][] are) {
        for (int g = 0; g < were.length; g++) {
            if (Arrays.equals(were[g], are[g])) continue;
            for (int k = 0; k < were[g].length; k++) {
                Due.due(name + ": " + groups.get(g).get(k).text() + " behind " + call, are[g][k], were[g][k]);
            }
        }
        Due.due(name + ": nothing is changed by " + call, Arrays.deepEquals(were, are) ? 1 : 0, 1);
    }

    private int[][] answersTo(Question... ahead) {
        int[][] all = new int[groups.size()][];
        for (int g = 0; g < all.length; g++) {
            List<Question> group = groups.get(g);
            JoineryFloor x = make();
            for (Question q : ahead) q.on(x);
            all[g] = new int[group.size()];
            for (int k = 0; k < all[g].length; k++) all[g][k] = group.get(k).on(x);
        }
        return all;
    }

    private void newGroup() {
        groups.add(new ArrayList<>());
    }

    private void ask(String call, int... a) {
        if (groups.get(groups.size() - 1).size() >= MOST_OF_GROUP) newGroup();
        groups.get(groups.size() - 1).add(new Question(call, a));
    }

    private void askFloor() {
        newGroup();
        ask("code");
        for (int what = 0; what < 5; what++) ask("count", what);
        for (int what = 0; what < 3; what++) ask("found", what);
        ask("end");
        for (int i = 0; i <= steps; i++) ask("row", i);
        for (int m = 0; m < machines; m++) for (int what = 0; what < 2; what++) ask("bound", m, what);
        for (int s = 0; s < steps; s++) {
            for (int what = 0; what < 5; what++) ask("told", s, what);
            ask("begin", s);
            for (int what = 0; what < 2; what++) ask("tail", s, what);
            for (int what = 0; what < 2; what++) ask("mended", s, what);
        }
    }

    private void askWindows() {
        newGroup();
        for (int s = 0; s < steps; s++) {
            for (int what = 0; what < 3; what++) ask("window", s, what);
            for (int o = 0; o < steps; o++) ask("must", s, o);
        }
    }

    /** What stands in the sheets, how many places they have, and of which FORM they are. */
    private void askSheets() {
        for (int s = 0; s < 6; s++) {
            newGroup();
            for (int i = 0; i < 41; i++) {
                ask("at", s, i);
                ask("code");
            }
            for (int form = 0; form < 3; form++) {
                ask("put", s, form, -1, 0);
                ask("code");
            }
        }
    }

    /** What comes of it shows what no question asks for: KINDS, GAPS, HANDS, SORTS, and what is kept for later. */
    private void goOn() {
        newGroup();
        for (int k = 0; k < 3; k++) {
            ask("rule", k);
            for (int s = 0; s < steps; s++) ask("begin", s);
        }
        newGroup();
        ask("windows", 30);
        for (int s = 0; s < steps; s++) ask("window", s, 1);
        ask("least", 7);
        for (int what = 0; what < 3; what++) ask("found", what);
        for (int s = 0; s < steps; s++) ask("told", s, 4);
        newGroup();
        for (int m = 0; m < machines; m++) for (int i = 0; i < 3; i++) ask("swap", m, i);
        for (int s = 0; s < steps; s++) ask("told", s, 4);
        ask("fail", 0, 3, 5);
        for (int s = 0; s < steps; s++) ask("mended", s, 0);
        newGroup();
        ask("machine", 3, 2);
        ask("piece", 9);
        ask("step", pieces, machines, 7);
        ask("step", 0, 0, 2);
        for (int s = 0; s < 6; s++) ask("read", s, 1);
        ask("code");
        for (int what = 0; what < 5; what++) ask("count", what);
        for (int s = 0; s < steps; s++) ask("begin", s);
        ask("end");
    }
}
