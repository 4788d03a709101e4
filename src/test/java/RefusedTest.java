import java.util.ArrayList;
import java.util.List;

/**
 * "A call that throws an exception changes nothing": of two notebooks that are told the same, one is told calls that are
 * to be refused, too; both answer the same to all questions, and to what comes later. For each place of a story, and for
 * each kind of refused calls, there are two new notebooks, so that none of them is used for more than 512 calls.
 */
public final class RefusedTest {
    private static final int NONE = NotebookWeir.NONE;
    private static final int ASKED = NotebookWeir.ASKED;
    private static final int KINDS = 6;
    private static final int STEPS_LATER = 6;

    /** Calls in words; a cell, query or rule is typed by a hand and made, an edit is typed by the second one. */
    private static final String[] SMALL = {"cell 0 a=1;a", "cell 1 b=a+w;b", "type 0 x", "widget w 2 9", "run 1", "shows 0",
        "cell 1 c=[b,?,@];c", "query 1 d=c>0l", "rule 1 e:d;f:e,g;g:f", "run 3", "run 4", "ask", "checkpoint",
        "turn 0 5", "tick", "run 4", "widget v 0 1", "bind 0 1", "turn 1 1", "turn 0 3", "tick", "edit 0 a=#b", "ask",
        "run 0", "edit 0 a=[2];a", "run 4", "ask", "kill", "restore", "kill", "checkpoint", "restore", "edit 0 a=4;a",
        "run 4", "ask", "cell 1 h=1", "edit 5 d=2", "ask", "edit 5 a!1", "run 4", "cell 1 x=", "edit 1 b=", "kill",
        "mode 2", "kill", "mode 0", "kill", "mode 1", "ask", "tick", "ask", "run 2", "found"};
    private static final String[] FULL = {"mode 2", "widget a -1000 1000", "widget b 0 0", "widget c 1 5", "widget d 3 4",
        "type 0 ########################################", "cell 1 e=a+b", "cell 1 f=e;f", "cell 1 g=?;g", "cell 1 h=@;h",
        "cell 1 i!1", "cell 1 i=2", "cell 1 i!g;i", "cell 1 j=k", "cell 1 k=j", "cell 1 l=k", "cell 1 m=1", "cell 1 m=2",
        "cell 1 m", "query 1 n=o<9l", "rule 1 o;p:o,n", "cell 1 n;#n;[1].1;n", "ask", "turn 0 7", "turn 2 5", "bind 0 2",
        "bind 2 3", "tick", "edit 13 n=i>0c", "edit 15 n+p", "ask", "checkpoint", "kill", "restore", "tick",
        "mode 1", "edit 0 e=d*a", "ask", "turn 3 4", "tick", "mode 0", "kill", "run 1", "edit 7 j=1",
        "edit 10 q=m", "run 9", "run 8", "edit 11 m=1;m", "run 10", "run 12", "ask", "checkpoint"};

    private final String what;
    private final NotebookWeir x = new NotebookWeir();
    private final NotebookWeir y = new NotebookWeir();
    private final List<Integer> versions = new ArrayList<>();
    private final int[] typed = new int[2];
    private String widgets = "";
    private int mode;
    private boolean isKilled;

    private RefusedTest(String what) {
        this.what = what;
    }

    public static void main(String[] args) {
        for (int mode = 0; mode < 3; mode++) {
            all("mode " + mode, SMALL);
        }
        all("mode 0", FULL);
        Checks.end("RefusedTest");
    }

    private static void all(String first, String[] steps) {
        for (int place = 0; place < steps.length; place++) {
            for (int kind = 0; kind < KINDS; kind++) {
                RefusedTest test = new RefusedTest(first + ", refused " + kind + " after " + steps[place]);
                test.step(first);
                for (int i = 0; i < Math.min(steps.length, place + 1 + STEPS_LATER); i++) {
                    test.step(steps[i]);
                    if (i == place) {
                        test.refuse(kind);
                    }
                }
                String answers = test.answers(test.x);
                Checks.due(test.what + ": " + answers, test.answers(test.y).equals(answers) ? 1 : 0, 1);
            }
        }
    }

    private void step(String step) {
        String[] words = step.split(" ");
        String told = tell(x, words);
        Checks.due(what + ": " + step + " -> " + told, tell(y, words).equals(told) ? 1 : 0, 1);
        note(words, told.equals(NONE + ""));
    }

    /** What the test must know to tell what is refused. */
    private void note(String[] words, boolean isNoText) {
        boolean isMade = "cell query rule".contains(words[0]);
        if (words[0].equals("mode")) {
            mode = Integer.parseInt(words[1]);
        } else if (words[0].equals("widget")) {
            widgets += words[1];
        } else if (words[0].equals("type")) {
            typed[Integer.parseInt(words[1])] += words[2].length();
        } else if (isMade && !isNoText) {
            versions.add(0);
        } else if (words[0].equals("edit") && !isNoText) {
            int cell = Integer.parseInt(words[1]);
            versions.set(cell, versions.get(cell) + 1);
        }
        if (isMade) {
            typed[Integer.parseInt(words[1])] = 0;
        }
        boolean isLeft = "checkpoint type bind shows found".contains(words[0]) || words[0].equals("mode") && mode < 2;
        isKilled = words[0].equals("kill") || isKilled && isLeft;
    }

    private String tell(NotebookWeir to, String[] words) {
        int first = words.length > 1 && words[1].length() < 3 && words[1].charAt(0) <= '9' ? Integer.parseInt(words[1]) : 0;
        switch (words[0]) {
            case "type":
                Checks.type(to, first, words[2]);
                return "";
            case "cell":
            case "query":
            case "rule":
                Checks.type(to, first, words[2]);
                return to.cell(first, "cqr".indexOf(words[0].charAt(0))) + "";
            case "edit":
                return Checks.edit(to, first, versions.get(first), words[2]) + "";
            case "widget":
                return to.widget(words[1].charAt(0), Integer.parseInt(words[2]), Integer.parseInt(words[3])) + "";
            case "bind":
                return to.bind(first, Integer.parseInt(words[2])) + "";
            case "turn":
                return to.turn(first, Integer.parseInt(words[2])) + "";
            case "ask":
                return asked(to);
            default:
                return tellShort(to, words[0], first);
        }
    }

    private String tellShort(NotebookWeir to, String word, int first) {
        return switch (word) {
            case "mode" -> to.mode(first) + "";
            case "tick" -> to.tick() + "";
            case "shows" -> to.shows(first) + "";
            case "run" -> answer(() -> to.run(first));
            case "checkpoint" -> to.checkpoint() + "";
            case "kill" -> to.kill() + "";
            case "restore" -> answer(() -> to.restore());
            default -> to.found() + "";
        };
    }

    private static String answer(Checks.Call call) {
        try {
            return call.answer() + " ";
        } catch (RuntimeException e) {
            return e.getClass().getSimpleName() + " ";
        }
    }

    /** All questions that run nothing in any mode. */
    private String answers(NotebookWeir of) {
        StringBuilder told = new StringBuilder();
        for (int c = 0; c < versions.size(); c++) {
            int cell = c;
            told.append(c).append(": ").append(of.state(c)).append(' ').append(of.needs(c)).append(' ').append(of.ring(c));
            told.append(' ').append(of.order(c)).append(' ').append(answer(() -> of.resultAnew(cell, NONE)));
        }
        for (int w = 0; w < widgets.length(); w++) {
            told.append(of.shows(w)).append(' ');
        }
        for (int language = 0; language < 3; language++) {
            told.append(of.fault(0, language)).append(' ').append(of.fault(1, language)).append(' ');
        }
        told.append(of.runs()).append(' ').append(of.found()).append(' ');
        return mode == ASKED ? told.toString() : told + asked(of);
    }

    private String asked(NotebookWeir of) {
        StringBuilder told = new StringBuilder();
        for (int c = 0; c < versions.size() && c < 6; c++) {
            int cell = c;
            told.append(c).append(": ").append(answer(() -> of.result(cell, NONE))).append(of.error(c)).append(' ');
        }
        for (char name = 'a'; name <= 'i'; name++) {
            char by = name;
            told.append(name).append(": ").append(answer(() -> of.value(by, NONE)));
        }
        return told.toString();
    }

    private void refuse(int kind) {
        switch (kind) {
            case 0 -> refuseTexts();
            case 1 -> refuseEdits();
            case 2 -> refuseWidgets();
            case 3 -> refuseNumbers();
            case 4 -> {
                for (int c = 0; c < versions.size(); c++) {
                    refuseRuns(c);
                }
            }
            default -> refuseValues();
        }
    }

    private void refuseNumbers() {
        for (int none : new int[] {-1, versions.size(), 16, Integer.MIN_VALUE, Integer.MAX_VALUE}) {
            Checks.index("run", () -> y.run(none));
            Checks.index("state", () -> y.state(none));
            Checks.index("needs", () -> y.needs(none));
            Checks.index("ring", () -> y.ring(none));
            Checks.index("result", () -> y.result(none, NONE));
            Checks.index("resultAnew", () -> y.resultAnew(none, NONE));
            Checks.index("error", () -> y.error(none));
            Checks.index("order", () -> y.order(Math.min(-1, -Math.abs(none))));
        }
    }

    private void refuseValues() {
        for (char none : new char[] {0, '`', '{', (char) 65535}) {
            Checks.argument("value", () -> y.value(none, NONE));
        }
        for (char name = 'a'; name <= 'z' && mode != ASKED; name++) {
            char by = name;
            Checks.state("value", () -> y.value(by, -2));
            Checks.state("value", () -> y.value(by, 8));
        }
        if (!isKilled) {
            Checks.state("restore", () -> y.restore());
        }
    }

    private void refuseRuns(int cell) {
        int state = y.state(cell);
        if (state >= NotebookWeir.BLOCKED) {
            Checks.state("run", () -> y.run(cell));
        }
        if (mode != ASKED || state != NotebookWeir.STALE) {
            Checks.state("result", () -> y.result(cell, -2));
            Checks.state("result", () -> y.result(cell, 8));
            if (state != NotebookWeir.FRESH) {
                Checks.state("result", () -> y.result(cell, NONE));
            }
        }
        Checks.state("resultAnew", () -> y.resultAnew(cell, -2));
        Checks.state("resultAnew", () -> y.resultAnew(cell, 8));
    }

    private void refuseTexts() {
        for (int hand : new int[] {-1, 2, Integer.MIN_VALUE, Integer.MAX_VALUE}) {
            Checks.argument("type", () -> y.type(hand, 'a'));
            Checks.argument("fault", () -> y.fault(hand, 0));
            Checks.argument("cell", () -> y.cell(hand, 0));
        }
        for (int hand = 0; hand < 2; hand++) {
            int by = hand;
            if (typed[hand] == 40) {
                Checks.state("type", () -> y.type(by, 'a'));
            }
            if (versions.size() == 16) {
                Checks.state("cell", () -> y.cell(by, 0));
            }
            Checks.argument("fault", () -> y.fault(by, 3));
            Checks.argument("cell", () -> y.cell(by, -1));
        }
        Checks.argument("mode", () -> y.mode(3));
        Checks.argument("mode", () -> y.mode(-1));
    }

    private void refuseEdits() {
        for (int hand = 0; hand < 2; hand++) {
            int by = hand;
            Checks.index("edit", () -> y.edit(by, versions.size(), 0));
            Checks.index("edit", () -> y.edit(by, -1, 0));
            for (int c = 0; c < versions.size(); c++) {
                int cell = c;
                Checks.argument("edit", () -> y.edit(by * 3 - 1, cell, versions.get(cell)));
                Checks.state("edit", () -> y.edit(by, cell, versions.get(cell) + 1));
                Checks.state("edit", () -> y.edit(by, cell, versions.get(cell) - 1));
            }
        }
    }

    private void refuseWidgets() {
        int count = widgets.length();
        Checks.argument("widget", () -> y.widget('`', 0, 1));
        Checks.argument("widget", () -> y.widget('y', -1001, 1));
        Checks.argument("widget", () -> y.widget('y', 0, 1001));
        Checks.argument("widget", () -> y.widget('y', 1, 0));
        if (count == 4) {
            Checks.state("widget", () -> y.widget('y', 0, 1));
        }
        for (int none : new int[] {-1, count, 4, Integer.MIN_VALUE, Integer.MAX_VALUE}) {
            Checks.index("bind", () -> y.bind(none, 0) ? 1 : 0);
            Checks.index("bind", () -> y.bind(0, none) ? 1 : 0);
            Checks.index("turn", () -> y.turn(none, 0));
            Checks.index("shows", () -> y.shows(none));
        }
        for (int w = 0; w < count; w++) {
            int widget = w;
            Checks.state("widget", () -> y.widget(widgets.charAt(widget), 0, 1));
            Checks.argument("bind", () -> y.bind(widget, widget) ? 1 : 0);
            Checks.argument("turn", () -> y.turn(widget, 1001));
            Checks.argument("turn", () -> y.turn(widget, -1001));
        }
    }
}
