/** The bounds that "Running" names, and those of the promises 6, 12, 19, 21, 22, 24 and 25. */
public final class RunningBoundsTest {
    private static final int NONE = NotebookWeir.NONE;
    private static final int UNTOLD = NotebookWeir.UNTOLD;
    private static final int KIND = NotebookWeir.KIND;
    private static final int ITEM = NotebookWeir.ITEM;
    private static final int FRESH = NotebookWeir.FRESH;
    private static final int STALE = NotebookWeir.STALE;
    private static final int FAILED = NotebookWeir.FAILED;
    private static final int BLOCKED = NotebookWeir.BLOCKED;
    private static final int RING = NotebookWeir.RING;
    private static final int TWICE = NotebookWeir.TWICE;
    private static final int BY_HAND = NotebookWeir.BY_HAND;
    private static final int ASKED = NotebookWeir.ASKED;
    private static final int AT_ONCE = NotebookWeir.AT_ONCE;

    public static void main(String[] args) {
        freshByEdits();
        freshByNeeds();
        freshByRunsOfOthers();
        freshByWidgets();
        failedLikewise();
        staleByStale();
        runsTheStaleOnesFirst();
        runsItselfInAnyCase();
        runsAllOthersIfOneFails();
        theLowestFirst();
        modes();
        whenAtOnce();
        whenNotAtOnce();
        whenAsked();
        askedForTheCellAlone();
        atOnceUntilThereAreNone();
        chance();
        chanceOfErrors();
        time();
        foundBySigns();
        foundByTexts();
        foundByValues();
        lastFourRuns();
        fourOfEach();
        errorsAreNoRuns();
        killingForgets();
        asked();
        Checks.end("RunningBoundsTest");
    }

    /** "since then its text was not edited": also the same text is an edit, but what is refused or no text is none. */
    private static void freshByEdits() {
        NotebookWeir x = Checks.notebook("a=1", "b=a", "c=1");
        Checks.states("not run", x, STALE, STALE, STALE);
        Checks.run(x, 1, 2);
        Checks.states("run", x, FRESH, FRESH, FRESH);
        Checks.type(x, 0, "a=2");
        Checks.state("another version", () -> x.edit(0, 0, 1));
        Checks.argument("no hand", () -> x.edit(2, 0, 0));
        Checks.states("refused", x, FRESH, FRESH, FRESH);
        Checks.due("no text", Checks.edit(x, 0, 0, "a="), NONE);
        Checks.states("no text", x, FRESH, FRESH, FRESH);
        Checks.edit(x, 2, 0, "c=2");
        Checks.states("another cell", x, FRESH, FRESH, STALE);
        Checks.edit(x, 1, 0, "b=a");
        Checks.states("the same text", x, FRESH, STALE, STALE);
        Checks.edit(x, 0, 0, "a=1");
        Checks.states("the same text", x, STALE, STALE, STALE);
        Checks.due("run again", x.run(1), 1);
        Checks.states("found again", x, FRESH, FRESH, STALE);
    }

    /** "it has the same needs": one more, one less, another one; "(turned back it is as then; needs likewise)". */
    private static void freshByNeeds() {
        NotebookWeir x = Checks.notebook("a=1", "b=a+c", "c=1", "1");
        x.run(1);
        Checks.states("run", x, FRESH, FRESH, FRESH, STALE);
        Checks.edit(x, 3, 0, "a!1");
        Checks.states("another one", x, FRESH, STALE, FRESH, STALE);
        Checks.edit(x, 3, 1, "a=1");
        Checks.due("one more that defines it", x.state(1), BLOCKED);
        Checks.edit(x, 3, 2, "a");
        Checks.states("turned back", x, FRESH, FRESH, FRESH, STALE);
        x.widget('w', 0, 9);
        Checks.states("a widget of another name", x, FRESH, FRESH, FRESH, STALE);
        NotebookWeir y = Checks.notebook("w+1", "w!1", "1");
        y.widget('w', 3, 9);
        y.run(0);
        Checks.states("run", y, FRESH, FRESH, STALE);
        Checks.edit(y, 2, 0, "w!1");
        Checks.states("the needs of the first one", y, STALE, FRESH, STALE);
        Checks.edit(y, 2, 1, "1");
        Checks.states("turned back", y, FRESH, FRESH, STALE);
        Checks.edit(y, 1, 0, "1");
        Checks.due("a widget instead of a cell", y.state(0), STALE);
        Checks.edit(y, 1, 1, "w!1");
        Checks.due("turned back, but that is STALE", y.state(0), STALE);
        y.run(1);
        Checks.due("turned back, but that was run", y.state(0), STALE);
    }

    /** "no cell that it needs was run or found again", be it with the same values. */
    private static void freshByRunsOfOthers() {
        NotebookWeir x = Checks.notebook("a=1", "b=a", "c=b", "d=1");
        x.run(2);
        Checks.due("another cell", x.run(3), 0);
        Checks.states("another cell", x, FRESH, FRESH, FRESH, FRESH);
        Checks.due("the last one", x.run(2), 1);
        Checks.states("the last one", x, FRESH, FRESH, FRESH, FRESH);
        Checks.due("one found again", x.run(1), 1);
        Checks.states("one found again", x, FRESH, FRESH, STALE, FRESH);
        Checks.due("one found again", x.run(0), 1);
        Checks.states("one found again", x, FRESH, STALE, STALE, FRESH);
        x.run(2);
        Checks.edit(x, 0, 0, "a=2-1");
        Checks.due("one is run", x.run(0), 0);
        Checks.states("one is run", x, FRESH, STALE, STALE, FRESH);
    }

    /** "no widget that it uses shows another number than then (turned back it is as then)". */
    private static void freshByWidgets() {
        NotebookWeir x = Checks.notebook("w+z", "a=v", "b=1", "w!1", "a");
        x.widget('v', 0, 9);
        x.widget('w', 0, 9);
        x.widget('y', 0, 9);
        x.widget('z', 0, 9);
        Checks.run(x, 0, 1, 2, 4);
        Checks.states("run", x, FRESH, FRESH, FRESH, FRESH, FRESH);
        Checks.show(x, 2, 5);
        Checks.states("a widget that nobody uses", x, FRESH, FRESH, FRESH, FRESH, FRESH);
        Checks.show(x, 0, 1);
        Checks.states("the first widget", x, FRESH, STALE, FRESH, FRESH, STALE);
        Checks.show(x, 0, 0);
        Checks.states("turned back", x, FRESH, FRESH, FRESH, FRESH, FRESH);
        Checks.show(x, 3, 9);
        Checks.states("the last widget", x, STALE, FRESH, FRESH, FRESH, FRESH);
        Checks.show(x, 1, 9);
        Checks.states("a widget that a cell changes", x, STALE, FRESH, FRESH, STALE, FRESH);
        Checks.show(x, 3, 0);
        Checks.states("turned back", x, STALE, FRESH, FRESH, STALE, FRESH);
        x.turn(1, 0);
        Checks.states("ahead of the tick", x, STALE, FRESH, FRESH, STALE, FRESH);
        x.tick();
        Checks.states("turned back", x, FRESH, FRESH, FRESH, FRESH, FRESH);
        Checks.show(x, 0, 4);
        x.run(1);
        Checks.show(x, 0, 0);
        Checks.states("run with another number", x, FRESH, STALE, FRESH, FRESH, STALE);
        Checks.show(x, 0, 4);
        Checks.states("turned to that", x, FRESH, FRESH, FRESH, FRESH, STALE);
    }

    /** "FAILED if it was run so with an error; otherwise STALE". */
    private static void failedLikewise() {
        NotebookWeir x = Checks.notebook("#w", "a=1", "#a", "2", "#2");
        x.widget('w', 0, 9);
        Checks.run(x, 0, 2, 4);
        Checks.states("run", x, FAILED, FRESH, FAILED, STALE, FAILED);
        Checks.show(x, 0, 1);
        Checks.states("another number", x, STALE, FRESH, FAILED, STALE, FAILED);
        Checks.show(x, 0, 0);
        Checks.states("turned back", x, FAILED, FRESH, FAILED, STALE, FAILED);
        x.run(1);
        Checks.states("what it needs was found again", x, FAILED, FRESH, STALE, STALE, FAILED);
        x.run(2);
        Checks.edit(x, 3, 0, "a!1");
        Checks.states("other needs", x, FAILED, FRESH, STALE, STALE, FAILED);
        Checks.edit(x, 3, 1, "2");
        Checks.states("needs turned back", x, FAILED, FRESH, FAILED, STALE, FAILED);
        Checks.edit(x, 1, 0, "a=1");
        Checks.states("what it needs is STALE", x, FAILED, STALE, STALE, STALE, FAILED);
        Checks.edit(x, 4, 0, "#2");
        Checks.states("edited", x, FAILED, STALE, STALE, STALE, STALE);
        x.kill();
        Checks.states("killed", x, STALE, STALE, STALE, STALE, STALE);
    }

    /** "but it is STALE, too, if a cell that it needs is", over as many as there are. */
    private static void staleByStale() {
        NotebookWeir x = Checks.notebook("a=w", "b=a", "c=b", "d=c", "e=d", "f=1");
        x.widget('w', 0, 9);
        Checks.run(x, 4, 5);
        Checks.states("run", x, FRESH, FRESH, FRESH, FRESH, FRESH, FRESH);
        Checks.show(x, 0, 1);
        Checks.states("the first one is STALE", x, STALE, STALE, STALE, STALE, STALE, FRESH);
        Checks.show(x, 0, 0);
        Checks.states("turned back", x, FRESH, FRESH, FRESH, FRESH, FRESH, FRESH);
        Checks.edit(x, 2, 0, "c=b");
        Checks.states("one between", x, FRESH, FRESH, STALE, STALE, STALE, FRESH);
    }

    /** "first all STALE cells that it needs, and that these need", not FRESH ones and not others. */
    private static void runsTheStaleOnesFirst() {
        NotebookWeir x = Checks.notebook("a=b+c;a", "b=d;b", "c=1", "d=1", "e=1", "f=a");
        Checks.due("run alone", x.run(3), 0);
        Checks.counts("run alone", x, 1, 0);
        Checks.due("run", x.run(0), 0);
        Checks.counts("three more", x, 4, 0);
        Checks.states("three more", x, FRESH, FRESH, FRESH, FRESH, STALE, STALE);
        Checks.edit(x, 1, 0, "b=d+1;b");
        Checks.due("run", x.run(0), 0);
        Checks.counts("two more", x, 6, 0);
        Checks.edit(x, 1, 1, "b=d;b");
        Checks.due("run", x.run(0), 1);
        Checks.counts("two are found again", x, 6, 2);
        Checks.due("run", x.run(1), 1);
        Checks.counts("not what is behind it", x, 6, 3);
        Checks.states("what is behind it is STALE", x, STALE, FRESH, FRESH, FRESH, STALE, STALE);
    }

    /** "and then itself, also if it is FRESH". */
    private static void runsItselfInAnyCase() {
        NotebookWeir x = Checks.notebook("?", "#1", "a=1");
        for (int i = 1; i <= 3; i++) {
            Checks.due("run", x.run(0), 0);
            Checks.due("another chance", x.result(0, NONE), Checks.chance(i));
        }
        Checks.counts("FRESH ones are run", x, 3, 0);
        Checks.run(x, 1, 1);
        Checks.counts("FAILED ones are run", x, 5, 0);
        Checks.run(x, 2, 2);
        Checks.counts("or found again", x, 6, 1);
    }

    /** "if one FAILS, those that need it are not run, all others are"; NONE is answered for that. */
    private static void runsAllOthersIfOneFails() {
        NotebookWeir x = Checks.notebook("a=b+c+d", "b=e", "c=f", "d=1", "e=#1", "f=2", "g=a", "h=1");
        Checks.due("run", x.run(0), NONE);
        Checks.counts("run", x, 4, 0);
        Checks.states("run", x, BLOCKED, BLOCKED, FRESH, FRESH, FAILED, FRESH, BLOCKED, STALE);
        Checks.state("then it is BLOCKED", () -> x.run(0));
        Checks.counts("nothing is run by that", x, 4, 0);
        Checks.edit(x, 4, 0, "e=1;[1].1");
        Checks.due("run", x.run(0), NONE);
        Checks.counts("the one that FAILS again", x, 5, 0);
        Checks.due("the one that FAILED", x.run(4), 0);
        Checks.counts("the one that FAILED", x, 6, 0);
        Checks.edit(x, 4, 1, "e=1");
        Checks.due("run", x.run(0), 0);
        Checks.counts("it, what needs it, and so on", x, 9, 0);
        NotebookWeir y = Checks.notebook("a=b+c", "b=#1", "c=#1");
        Checks.due("two that FAIL", y.run(0), NONE);
        Checks.states("two that FAIL", y, BLOCKED, FAILED, FAILED);
    }

    /** "each when all that it needs is FRESH, the lowest such first": told by the chance that they draw. */
    private static void theLowestFirst() {
        for (int mode : new int[] {BY_HAND, ASKED, AT_ONCE}) {
            NotebookWeir x = Checks.notebook("z=a+b+c+d", "a=b*0+?", "b=?", "c=e*0+?", "d=?", "e=?");
            x.mode(mode);
            if (mode == BY_HAND) {
                x.run(0);
            }
            drew("mode " + mode, x, "zbadec");
            Checks.counts("mode " + mode, x, 6, 0);
        }
    }

    /** What cells drew in this order; the first one is asked for first, and draws nothing itself. */
    private static void drew(String what, NotebookWeir x, String names) {
        x.value(names.charAt(0), NONE);
        for (int i = 1; i < names.length(); i++) {
            Checks.due(what + ": chance of " + names.charAt(i), x.value(names.charAt(i), NONE), Checks.chance(i));
        }
    }

    /** "BY_HAND, ASKED or AT_ONCE", by hand at first. */
    private static void modes() {
        NotebookWeir x = new NotebookWeir();
        for (int none : new int[] {-1, 3, Integer.MIN_VALUE, Integer.MAX_VALUE}) {
            Checks.argument("mode(" + none + ")", () -> x.mode(none));
        }
        int before = BY_HAND;
        for (int mode : new int[] {BY_HAND, ASKED, ASKED, AT_ONCE, AT_ONCE, BY_HAND, AT_ONCE, ASKED, BY_HAND}) {
            Checks.due("mode(" + mode + ")", x.mode(mode), before);
            Checks.argument("mode(3)", () -> x.mode(3));
            before = mode;
        }
    }

    /** A notebook whose two cells are STALE in the mode AT_ONCE: one is killed, and nothing was done since then. */
    private static NotebookWeir killed() {
        NotebookWeir x = new NotebookWeir();
        x.mode(AT_ONCE);
        Checks.expressions(x, "a=1;a");
        Checks.expressions(x, "b=2;b");
        x.widget('v', 0, 9);
        x.widget('w', 0, 9);
        x.kill();
        x.kill();
        return x;
    }

    /** "whenever a cell is made or edited, this mode is told, a widget is added, or a tick comes". */
    private static void whenAtOnce() {
        for (int event = 0; event < 5; event++) {
            NotebookWeir x = killed();
            Checks.states("ahead of the event " + event, x, STALE, STALE);
            Checks.type(x, 0, "3");
            switch (event) {
                case 0 -> x.cell(0, NotebookWeir.EXPRESSIONS);
                case 1 -> x.edit(0, 1, 0);
                case 2 -> x.mode(AT_ONCE);
                case 3 -> x.widget('u', 0, 1);
                default -> x.tick();
            }
            Checks.states("the event " + event, x, FRESH, FRESH);
            Checks.counts("the event " + event, x, event == 0 ? 5 : 4, 0);
        }
        NotebookWeir x = killed();
        x.mode(BY_HAND);
        x.tick();
        x.mode(ASKED);
        x.tick();
        Checks.states("other modes", x, STALE, STALE);
    }

    /** What is none of these runs nothing. */
    private static void whenNotAtOnce() {
        NotebookWeir x = killed();
        x.turn(0, 5);
        x.bind(0, 1);
        Checks.type(x, 0, "x=");
        x.fault(0, NotebookWeir.EXPRESSIONS);
        Checks.state("another version", () -> x.edit(0, 0, 7));
        x.edit(0, 0, 0);
        Checks.type(x, 0, "x=");
        x.cell(0, NotebookWeir.EXPRESSIONS);
        Checks.argument("no language", () -> x.cell(0, 3));
        Checks.state("a widget again", () -> x.widget('w', 0, 1));
        Checks.argument("no mode", () -> x.mode(3));
        Checks.state("restore what was turned", () -> x.restore());
        x.checkpoint();
        Checks.state("a result", () -> x.result(0, NONE));
        Checks.state("a value", () -> x.value('a', NONE));
        Checks.due("an error", x.error(0), 0);
        Checks.due("anew", x.resultAnew(0, NONE), 1);
        x.shows(0);
        x.kill();
        x.restore();
        Checks.states("nothing is run", x, STALE, STALE);
        Checks.counts("nothing is run", x, 2, 0);
        Checks.due("one by hand", x.run(0), 0);
        Checks.states("one by hand", x, FRESH, STALE);
    }

    /** "when a result, a value or an error is asked for, the cell of it, if it is STALE". */
    private static void whenAsked() {
        for (int question = 0; question < 3; question++) {
            NotebookWeir x = Checks.notebook("a=?;a", "b=1");
            Checks.due("asked " + question + " by hand", ask(x, question), question == 2 ? 0 : NONE);
            Checks.counts("asked " + question + " by hand", x, 0, 0);
            x.mode(ASKED);
            Checks.counts("told", x, 0, 0);
            Checks.due("asked " + question, ask(x, question), question == 2 ? 0 : 149);
            Checks.states("asked " + question, x, FRESH, STALE);
            Checks.due("asked " + question + " again", ask(x, question), question == 2 ? 0 : 149);
            Checks.counts("FRESH ones are not run again", x, 1, 0);
            x.run(0);
            x.mode(AT_ONCE);
            x.kill();
            Checks.due("asked " + question + " at once", ask(x, question), question == 2 ? 0 : NONE);
            Checks.states("asked " + question + " at once", x, STALE, STALE);
        }
        NotebookWeir x = Checks.notebook("a=?+z;a", "b=1");
        x.mode(ASKED);
        x.state(0);
        x.needs(0);
        x.ring(0);
        x.order(0);
        x.runs();
        x.found();
        x.checkpoint();
        Checks.state("anew", () -> x.resultAnew(0, NONE));
        Checks.counts("other questions run nothing", x, 0, 0);
        Checks.due("an error", x.error(0), 100 * UNTOLD);
        Checks.due("an error again", x.error(0), 100 * UNTOLD);
        Checks.state("its result", () -> x.result(0, NONE));
        Checks.state("its value", () -> x.value('a', NONE));
        Checks.counts("FAILED ones are not run again", x, 1, 0);
    }

    /** Asks for a result, a value or an error of the first cell; NONE if it is refused. */
    private static int ask(NotebookWeir x, int question) {
        try {
            return question == 0 ? x.result(0, NONE) : question == 1 ? x.value('a', NONE) : x.error(0);
        } catch (IllegalStateException e) {
            return NONE;
        }
    }

    /** What is asked for is run with all that it needs, and nothing else; and ahead of what is refused. */
    private static void askedForTheCellAlone() {
        NotebookWeir x = Checks.notebook("a=1;a", "b=a;b", "c=b", "d=[1].1", "e=d;e", "f=g", "g=f", "h=1", "h=1",
                "i!1");
        x.mode(ASKED);
        Checks.due("a value", x.value('b', NONE), 1);
        Checks.states("a value", x, FRESH, FRESH, STALE, STALE, STALE, RING, RING, TWICE, TWICE, STALE);
        Checks.state("no such item", () -> x.value('c', 0));
        Checks.counts("no such item", x, 3, 0);
        Checks.state("behind an error", () -> x.result(4, NONE));
        Checks.states("behind an error", x, FRESH, FRESH, FRESH, FAILED, BLOCKED);
        Checks.counts("behind an error", x, 4, 0);
        Checks.due("no error of what is BLOCKED", x.error(4), 0);
        Checks.state("BLOCKED", () -> x.value('e', NONE));
        Checks.state("in a RING", () -> x.value('f', NONE));
        Checks.state("TWICE", () -> x.value('h', NONE));
        Checks.state("TWICE", () -> x.result(7, NONE));
        Checks.state("nobody's", () -> x.value('y', NONE));
        Checks.argument("no name", () -> x.value('{', NONE));
        Checks.index("no cell", () -> x.result(10, NONE));
        Checks.index("no cell", () -> x.error(10));
        Checks.counts("none of these", x, 4, 0);
        Checks.state("no result", () -> x.result(2, NONE));
        Checks.counts("it is FRESH", x, 4, 0);
        x.kill();
        Checks.state("no result", () -> x.result(2, NONE));
        Checks.counts("it is STALE", x, 7, 0);
    }

    /** "STALE cells are run so ..., until there are none": as many as 16, but not those that cannot. */
    private static void atOnceUntilThereAreNone() {
        NotebookWeir x = new NotebookWeir();
        for (int c = 0; c < 15; c++) {
            Checks.expressions(x, (char) ('a' + c) + "=" + (char) ('b' + c));
        }
        x.mode(AT_ONCE);
        Checks.counts("the last one alone", x, 1, 0);
        Checks.states("the last one alone", x, BLOCKED, BLOCKED, BLOCKED, BLOCKED, BLOCKED, BLOCKED, BLOCKED, BLOCKED,
                BLOCKED, BLOCKED, BLOCKED, BLOCKED, BLOCKED, BLOCKED, FAILED);
        Checks.expressions(x, "p=w");
        Checks.counts("one that FAILED", x, 2, 0);
        x.widget('w', 0, 9);
        Checks.counts("all of them", x, 18, 0);
        Checks.due("the value of the first one", x.value('a', NONE), 0);
        Checks.show(x, 0, 5);
        Checks.counts("all of them", x, 34, 0);
        Checks.due("the value of the first one", x.value('a', NONE), 5);
        Checks.show(x, 0, 0);
        Checks.counts("all are found again", x, 34, 16);
        Checks.edit(x, 7, 0, "h=#i");
        Checks.counts("one that FAILS", x, 35, 16);
        for (int c = 0; c < 16; c++) {
            Checks.due("one that FAILS: state(" + c + ")", x.state(c), c < 7 ? BLOCKED : c == 7 ? FAILED : FRESH);
        }
    }

    /** "75 times what it was, and 74, together, modulo 65537; it was 1 at first, so that the first one is 149". */
    private static void chance() {
        Checks.due("the first one", Checks.chance(1), 149);
        NotebookWeir x = Checks.notebook("?;".repeat(19) + "?", "[?,?,?,?,?,?,?,?]", "a=?;?;b=?;a!?");
        x.run(0);
        Checks.due("20 of one text", x.result(0, NONE), Checks.chance(20));
        x.run(1);
        for (int i = 0; i < 8; i++) {
            Checks.due("from left to right", x.result(1, i), Checks.chance(21 + i));
        }
        x.run(2);
        Checks.due("statement by statement", x.value('a', NONE), Checks.chance(29) + Checks.chance(32));
        Checks.due("statement by statement", x.result(2, NONE), Checks.chance(30));
        Checks.due("statement by statement", x.value('b', NONE), Checks.chance(31));
        x.kill();
        x.run(0);
        Checks.due("killing changes nothing of it", x.result(0, NONE), Checks.chance(52));
        NotebookWeir y = Checks.notebook("?;".repeat(19) + "?");
        for (int i = 1; i <= 450; i++) {
            y.run(0);
            if (i % 50 == 0) {
                Checks.due("modulo 65537, after " + 20 * i, y.result(0, NONE), Checks.chance(20 * i));
            }
        }
        Checks.due("another notebook has its own", y.runs(), 450);
    }

    /** What is not looked at draws nothing; what was drawn ahead of an error stays drawn. */
    private static void chanceOfErrors() {
        String[] drawing = {"?+x", "?;x", "[1]+?", "[1]*?*2", "[?,[1]]", "a=[1];a!?", "?.0", "#?"};
        String[] others = {"x+?", "x;?", "#1+?", "[1].1*?", "[[1],?]", "x!?", "[1]+1+?", "1;[1]-1;?", "[[1],2].0+?"};
        for (String text : drawing) {
            drewUntilError(text, 1);
        }
        for (String text : others) {
            drewUntilError(text, 0);
        }
    }

    private static void drewUntilError(String text, int draws) {
        NotebookWeir x = Checks.notebook(text, "?");
        x.run(0);
        Checks.due(text + " fails", x.state(0), FAILED);
        x.run(1);
        Checks.due("the next one behind " + text, x.result(1, NONE), Checks.chance(draws + 1));
    }

    /** "time is the tick of now", 0 at first. */
    private static void time() {
        NotebookWeir x = Checks.notebook("@", "[@,@]", "b=@;b!@;b");
        x.run(0);
        Checks.due("at first", x.result(0, NONE), 0);
        for (int tick = 1; tick <= 40; tick++) {
            Checks.due("tick", x.tick(), tick);
            Checks.due("an old time", x.result(0, NONE), tick - 1);
            Checks.due("is FRESH", x.state(0), FRESH);
            Checks.run(x, 0, 1, 2);
            Checks.due("the time of now", x.result(0, NONE), tick);
            Checks.due("both", x.result(1, 0) + x.result(1, 1), 2 * tick);
            Checks.due("changed by it", x.result(2, NONE), 2 * tick);
        }
        x.kill();
        x.run(0);
        Checks.due("killing changes nothing of it", x.result(0, NONE), 40);
    }

    /** "A cell without ? @ !", in each language. */
    private static void foundBySigns() {
        for (String text : new String[] {"1", "a=1", "a=1;a", "[1,2]", "#[1]", "[1,2].1", "1+2*3-(4)"}) {
            NotebookWeir x = Checks.notebook(text);
            Checks.due(text, x.run(0), 0);
            Checks.due(text + " again", x.run(0), 1);
            Checks.due(text + " again", x.run(0), 1);
            Checks.counts(text, x, 1, 2);
        }
        for (String text : new String[] {"?", "@", "a=1;a!1", "1;?", "1;@", "[1,?].0", "#[@]", "0*?", "a=1;a!0"}) {
            NotebookWeir x = Checks.notebook(text);
            Checks.due(text, x.run(0), 0);
            Checks.due(text + " again", x.run(0), 0);
            Checks.counts(text, x, 2, 0);
        }
        NotebookWeir x = Checks.notebook("a=[1,5]");
        Checks.query(x, "q=a>3l");
        Checks.rules(x, "p:a;r");
        Checks.run(x, 1, 2, 1, 2);
        Checks.counts("a query and rules", x, 3, 2);
        Checks.due("the row of a query", x.result(1, 0), 5);
        Checks.due("heads", x.result(2, NONE), 2);
        Checks.due("a head", x.value('p', NONE), 1);
    }

    /** "has had the same text": not another one of the same value; "Edits do not make these forgotten". */
    private static void foundByTexts() {
        NotebookWeir x = Checks.notebook("1+1");
        x.run(0);
        String[] texts = {"1+2", "1+1", "2", "1+1", "1+1;1", "(1+1)", "1+1"};
        int[] answers = {0, 1, 0, 1, 0, 0, 0};
        for (int i = 0; i < texts.length; i++) {
            Checks.edit(x, 0, i, texts[i]);
            Checks.due("run " + texts[i], x.run(0), answers[i]);
        }
        NotebookWeir y = Checks.notebook("1", "1");
        y.run(0);
        Checks.due("another cell has its own", y.run(1), 0);
    }

    /** "and the same values of all names that it uses". */
    private static void foundByValues() {
        NotebookWeir x = Checks.notebook("a=[1,2];b=5", "a.0;b", "1");
        x.run(1);
        String[] texts = {"a=[1,2];b=6", "a=[1,3];b=5", "a=[2,2];b=5", "a=[1,2,2];b=5", "b=5;a=[1,2]",
            "a=[1,2];b=5;c=9"};
        // The fifth text has the values of the first run, which is forgotten then; the sixth one has them again.
        int[] answers = {0, 0, 0, 0, 0, 1};
        for (int i = 0; i < texts.length; i++) {
            Checks.edit(x, 0, i, texts[i]);
            Checks.due("run behind " + texts[i], x.run(1), answers[i]);
        }
        NotebookWeir y = Checks.notebook("a=1", "b=5", "a;b;c", "c=7");
        y.run(2);
        Checks.edit(y, 3, 0, "c=8");
        Checks.due("the last name", y.run(2), 0);
        Checks.edit(y, 0, 0, "a=2");
        Checks.due("the first name", y.run(2), 0);
        Checks.edit(y, 0, 1, "1");
        y.widget('a', 1, 9);
        Checks.edit(y, 3, 1, "1;c=6+1");
        Checks.due("the same values, by others", y.run(2), 1);
        Checks.due("the result", y.result(2, NONE), 7);
        Checks.edit(y, 1, 0, "b=[5]");
        Checks.due("a row of that number", y.run(2), 0);
        NotebookWeir v = Checks.notebook("b=5", "b");
        v.run(1);
        Checks.edit(v, 0, 0, "b=[5,6,7]");
        Checks.due("a longer row", v.run(1), 0);
        Checks.edit(v, 0, 1, "b=4+1");
        Checks.due("the number, that was a row between", v.run(1), 1);
        Checks.edit(v, 0, 2, "b=[5,6]");
        Checks.due("a shorter row", v.run(1), 0);
        Checks.edit(v, 0, 3, "b=[5,6,7]");
        Checks.due("the longer row", v.run(1), 1);
        Checks.due("its last item", v.value('b', 2), 7);
        NotebookWeir z = Checks.notebook("a=1", "b=1");
        Checks.rules(z, "p:a;q:b");
        z.run(2);
        Checks.edit(z, 0, 0, "a=2");
        Checks.due("rules that hold likewise", z.run(2), 0);
    }

    /** "in one of its last 4 different runs"; "The one that was run first is forgotten for a fifth one". */
    private static void lastFourRuns() {
        NotebookWeir x = Checks.notebook("1");
        x.run(0);
        // Each number is the text; what was run first is forgotten, whatever was found again since then.
        int[] texts = {2, 3, 4, 1, 2, 3, 4, 1, 5, 2, 3, 4, 5, 1, 3, 4, 5, 1, 2, 4, 5, 1, 2, 3};
        int[] answers = {0, 0, 0, 1, 1, 1, 1, 1, 0, 1, 1, 1, 1, 0, 1, 1, 1, 1, 0, 1, 1, 1, 1, 0};
        for (int i = 0; i < texts.length; i++) {
            Checks.edit(x, 0, i, texts[i] + "");
            Checks.due("text " + texts[i] + " as edit " + i, x.run(0), answers[i]);
            Checks.due("its result", x.result(0, NONE), texts[i]);
        }
    }

    /** Each cell has its own four, of texts and of values. */
    private static void fourOfEach() {
        NotebookWeir x = Checks.notebook("w", "w+v", "w");
        x.widget('v', 0, 9);
        x.widget('w', 0, 9);
        for (int number = 0; number <= 4; number++) {
            Checks.show(x, 1, number);
            Checks.due("the first one, " + number, x.run(0), 0);
            if (number < 4) {
                Checks.due("the second one, " + number, x.run(1), 0);
            }
        }
        for (int number = 3; number >= 0; number--) {
            Checks.show(x, 1, number);
            Checks.due("the second one, again " + number, x.run(1), 1);
            Checks.due("the first one, again " + number, x.run(0), number > 0 ? 1 : 0);
        }
        Checks.due("the third one", x.run(2), 0);
        Checks.counts("all", x, 11, 7);
    }

    /** "running with an error is none", nor is one of a text with ? @ !. */
    private static void errorsAreNoRuns() {
        NotebookWeir x = Checks.notebook("1");
        x.run(0);
        String[] texts = {"2", "3", "4", "#1", "[1].1", "x", "#1+4", "?", "@", "a=1;a!1", "?;1", "1", "2", "3", "4",
            "#1"};
        int[] answers = {0, 0, 0, 0, 0, 0, 0, 0, 0, 0, 0, 1, 1, 1, 1, 0};
        for (int i = 0; i < texts.length; i++) {
            Checks.edit(x, 0, i, texts[i]);
            Checks.due("text " + texts[i] + " as edit " + i, x.run(0), answers[i]);
        }
        Checks.due("an error again", x.run(0), 0);
        Checks.due("its error", x.error(0), 100 * KIND);
        Checks.edit(x, 0, texts.length, "4");
        Checks.due("found again behind an error", x.run(0), 1);
        Checks.due("no error", x.error(0), 0);
        Checks.states("found again behind an error", x, FRESH);
        Checks.due("its result", x.result(0, NONE), 4);
    }

    /** "but killing does": of all cells, and all four. */
    private static void killingForgets() {
        NotebookWeir x = Checks.notebook("1", "w");
        x.widget('w', 0, 9);
        for (int number = 0; number < 4; number++) {
            Checks.show(x, 0, number);
            x.run(1);
        }
        x.run(0);
        x.kill();
        for (int number = 0; number < 4; number++) {
            Checks.show(x, 0, number);
            Checks.due("run " + number, x.run(1), 0);
        }
        Checks.due("another cell", x.run(0), 0);
        for (int number = 0; number < 4; number++) {
            Checks.show(x, 0, number);
            Checks.due("found again " + number, x.run(1), 1);
        }
        Checks.show(x, 0, 4);
        x.run(1);
        Checks.show(x, 0, 0);
        Checks.due("forgotten for a fifth one", x.run(1), 0);
    }

    /** The promises 19, 21 and 22: what is asked for is refused in each state but FRESH, or FAILED for errors. */
    private static void asked() {
        NotebookWeir x = Checks.notebook("a=1;a", "b=[4,5];b", "c=[1].1;c", "d=c;d", "e=f;1", "f=e;1", "g=1;1",
                "g=2;1", "h=1", "i!1", "j=1;j!1", "k=1", "k!1");
        Checks.run(x, 0, 1, 2, 10, 12);
        int[] states = {FRESH, FRESH, FAILED, BLOCKED, RING, RING, TWICE, TWICE, STALE, STALE, FRESH, FRESH, FRESH};
        Checks.states("each", x, states);
        for (int c = 0; c < states.length; c++) {
            int cell = c;
            if (c > 1) {
                Checks.state("result(" + c + ")", () -> x.result(cell, NONE));
            }
            Checks.due("error(" + c + ")", x.error(c), c == 2 ? 100 * ITEM : 0);
        }
        for (char name : "cdefghiz".toCharArray()) {
            Checks.state("value of " + name, () -> x.value(name, NONE));
        }
        Checks.due("a number", x.value('a', NONE), 1);
        Checks.state("no item of a number", () -> x.value('a', 0));
        Checks.state("no item of a number", () -> x.result(0, 0));
        Checks.due("how many items", x.value('b', NONE), 2);
        Checks.due("the last item", x.value('b', 1), 5);
        Checks.state("an item too many", () -> x.value('b', 2));
        Checks.due("the last item", x.result(1, 1), 5);
        Checks.state("an item too many", () -> x.result(1, 2));
        Checks.due("defined and changed by one cell", x.value('j', NONE), 2);
        Checks.due("as it is left by the last one", x.value('k', NONE), 2);
        x.run(11);
        Checks.state("the last one is STALE", () -> x.value('k', NONE));
        for (char none : new char[] {0, '`', '{', 'A', 'Z', (char) 255, (char) ('a' + 256), (char) 65535}) {
            Checks.argument("value of no name " + (int) none, () -> x.value(none, NONE));
        }
        for (int none : new int[] {-1, 13, 16, Integer.MIN_VALUE, Integer.MAX_VALUE}) {
            Checks.index("result(" + none + ")", () -> x.result(none, NONE));
            Checks.index("result(" + none + ") of no item", () -> x.result(none, -2));
            Checks.index("resultAnew(" + none + ")", () -> x.resultAnew(none, NONE));
            Checks.index("error(" + none + ")", () -> x.error(none));
            Checks.index("run(" + none + ")", () -> x.run(none));
        }
    }
}
