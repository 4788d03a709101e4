/** The bounds that "Killing, restoring" names, and those of the promises 13 to 15. */
public final class RestoreBoundsTest {
    private static final int NONE = NotebookWeir.NONE;
    private static final int UNTOLD = NotebookWeir.UNTOLD;
    private static final int FRESH = NotebookWeir.FRESH;
    private static final int STALE = NotebookWeir.STALE;
    private static final int FAILED = NotebookWeir.FAILED;
    private static final int BLOCKED = NotebookWeir.BLOCKED;
    private static final int RING = NotebookWeir.RING;
    private static final int TWICE = NotebookWeir.TWICE;
    private static final int ASKED = NotebookWeir.ASKED;
    private static final int AT_ONCE = NotebookWeir.AT_ONCE;

    public static void main(String[] args) {
        nothingToKill();
        killsValuesAlone();
        keepsNumbersAlone();
        keepsOfFreshOnes();
        keepsInPlaceOfTheOneBefore();
        keepsSixteen();
        hasWhatItTells();
        sameText();
        sameValues();
        sameRows();
        freshWhenKilledTheLastTime();
        failedOnesAreRun();
        inAnOrderAsRunningDoes();
        chanceAndTimeAsRecorded();
        twentyOfOneText();
        chanceOfWhatFailed();
        notUnlessKilled();
        notAfterCalls();
        notAfterAsking();
        afterOtherCalls();
        notTwice();
        answersAsTheDeadOne();
        Checks.end("RestoreBoundsTest");
    }

    private static void nothingToKill() {
        NotebookWeir x = new NotebookWeir();
        Checks.due("checkpoint of nothing", x.checkpoint(), 0);
        Checks.due("kill nothing", x.kill(), 0);
        Checks.due("restore nothing", x.restore(), 0);
        Checks.state("twice", () -> x.restore());
        NotebookWeir y = Checks.notebook("1", "2");
        Checks.due("kill what was not run", y.kill(), 0);
        Checks.due("restore what was not run", y.restore(), 0);
        Checks.states("not run", y, STALE, STALE);
    }

    /** "Killing the kernel lets no cell have a value; all are as if never run": but what is no value stays. */
    private static void killsValuesAlone() {
        NotebookWeir x = Checks.notebook("a=1;a", "b=[1].1", "c=b", "d=e", "e=d", "f=1", "f=2", "[?,@]", "a!1");
        x.widget('w', 2, 9);
        Checks.show(x, 0, 7);
        Checks.edit(x, 0, 0, "a=5;a");
        Checks.run(x, 0, 1, 7, 8);
        Checks.states("run", x, FRESH, FAILED, BLOCKED, RING, RING, TWICE, TWICE, FRESH, FRESH);
        Checks.type(x, 0, "7");
        Checks.due("how many were FRESH", x.kill(), 3);
        Checks.states("killed", x, STALE, STALE, STALE, RING, RING, TWICE, TWICE, STALE, STALE);
        Checks.state("no value", () -> x.value('a', NONE));
        Checks.state("no result", () -> x.result(0, NONE));
        Checks.due("no error", x.error(1), 0);
        Checks.due("no FRESH ones", x.checkpoint(), 0);
        Checks.due("again", x.kill(), 0);
        Checks.due("what a widget shows", x.value('w', NONE), 7);
        Checks.counts("killed", x, 4, 0);
        Checks.due("what a hand has typed", x.type(0, '7'), 2);
        Checks.due("how often it was edited", x.edit(0, 0, 1), 2);
        Checks.due("the mode", x.mode(0), 0);
        Checks.due("the time", x.tick(), 2);
        x.run(7);
        Checks.due("the chance", x.result(7, 0), Checks.chance(2));
    }

    /** Runs a cell behind one that defines a row, which is not kept, and one that defines a number, which is. */
    private static void keeps(String text, int language, int want) {
        NotebookWeir x = Checks.notebook("a=[1,2]", "b=5");
        Checks.type(x, 0, text);
        x.cell(0, language);
        Checks.run(x, 0, 1, 2);
        Checks.due(text + " is FRESH", x.state(2), FRESH);
        Checks.due("checkpoint of " + text, x.checkpoint(), want + 1);
    }

    /** "without ? and @ ..., what they gave, if that are numbers alone". */
    private static void keepsNumbersAlone() {
        for (String text : new String[] {"1", "c=1", "c=1;d=2;3", "c=1;c!1", "a.1", "#a", "[1];1", "c=[1];c=1;c", "b"}) {
            keeps(text, NotebookWeir.EXPRESSIONS, 1);
        }
        for (String text : new String[] {"[1]", "a", "c=[1]", "c=[1];1", "c=1;[1]", "c=1;d=[1];2", "1;[1]", "?", "@", "0*?",
            "c=1;c!@;c", "#[?]", "[@].0"}) {
            keeps(text, NotebookWeir.EXPRESSIONS, 0);
        }
        keeps("c=a>0s", NotebookWeir.QUERIES, 1);
        keeps("c=a>0c", NotebookWeir.QUERIES, 1);
        keeps("c=a>0m", NotebookWeir.QUERIES, 1);
        keeps("c=a>0l", NotebookWeir.QUERIES, 0);
        keeps("c=a>9l", NotebookWeir.QUERIES, 0);
        keeps("c", NotebookWeir.RULES, 1);
        keeps("c:a,b;d:c", NotebookWeir.RULES, 1);
        NotebookWeir x = Checks.notebook("b=5", "b!2;b");
        x.run(1);
        Checks.due("what changes a name of another cell", x.checkpoint(), 2);
        NotebookWeir y = Checks.notebook("z=1;z");
        y.run(0);
        Checks.due("the last name", y.checkpoint(), 1);
        Checks.edit(y, 0, 0, "z=[1];1");
        y.run(0);
        Checks.due("a row by the last name", y.checkpoint(), 0);
        Checks.edit(y, 0, 1, "y=1");
        y.run(0);
        Checks.due("what it gave ahead of an edit does not matter", y.checkpoint(), 1);
    }

    /** "that are FRESH then": in no other state. */
    private static void keepsOfFreshOnes() {
        NotebookWeir x = Checks.notebook("a=1", "#a", "b=c", "c=b", "d=1", "d=2", "e=1", "1");
        Checks.run(x, 0, 1, 7);
        Checks.states("each", x, FRESH, FAILED, RING, RING, TWICE, TWICE, STALE, FRESH);
        Checks.due("checkpoint", x.checkpoint(), 2);
        Checks.edit(x, 1, 0, "f=a");
        Checks.due("a STALE one", x.checkpoint(), 2);
        x.run(1);
        Checks.due("a FRESH one", x.checkpoint(), 3);
        x.run(0);
        Checks.due("a STALE one", x.checkpoint(), 2);
        x.kill();
        Checks.due("killed", x.checkpoint(), 0);
    }

    /** "Makes a checkpoint, in place of the one before", also of none, and of those that it does not keep. */
    private static void keepsInPlaceOfTheOneBefore() {
        NotebookWeir x = Checks.notebook("1", "w");
        x.widget('w', 0, 9);
        Checks.run(x, 0, 1);
        Checks.due("checkpoint", x.checkpoint(), 2);
        Checks.edit(x, 0, 0, "1");
        Checks.due("of one", x.checkpoint(), 1);
        x.run(0);
        x.kill();
        Checks.due("the first one is run", x.restore(), 1);
        Checks.due("checkpoint", x.checkpoint(), 2);
        Checks.show(x, 0, 1);
        x.run(1);
        Checks.due("with another value", x.checkpoint(), 2);
        x.kill();
        Checks.due("that is kept", x.restore(), 0);
        Checks.due("the last one", x.result(1, NONE), 1);
        Checks.show(x, 0, 0);
        x.run(1);
        x.kill();
        Checks.due("the one before is not", x.restore(), 1);
        x.kill();
        Checks.due("of none", x.checkpoint(), 0);
        Checks.due("then all are run", x.restore(), 2);
    }

    private static void keepsSixteen() {
        NotebookWeir x = new NotebookWeir();
        for (int c = 0; c < 16; c++) {
            Checks.expressions(x, c + "");
            x.run(c);
            Checks.due("checkpoint of " + (c + 1), x.checkpoint(), c + 1);
        }
        Checks.due("kill", x.kill(), 16);
        Checks.due("restore", x.restore(), 0);
        for (int c = 0; c < 16; c++) {
            Checks.due("result " + c, x.result(c, NONE), c);
        }
        x.kill();
        x.checkpoint();
        Checks.due("restore", x.restore(), 16);
        for (int c = 0; c < 16; c++) {
            Checks.due("result " + c, x.result(c, NONE), c);
        }
    }

    /** "have what it tells": they are not run and not found again, and are none of the last four runs. */
    private static void hasWhatItTells() {
        NotebookWeir x = Checks.notebook("a=1;b=2;7", "c=a+b;8", "d=9", "a!1");
        Checks.query(x, "e=b<5s");
        Checks.rules(x, "f:a;g:b,h;h:g");
        Checks.run(x, 0, 3, 1, 2, 4, 5);
        Checks.due("checkpoint", x.checkpoint(), 6);
        Checks.due("kill", x.kill(), 6);
        Checks.due("restore", x.restore(), 0);
        Checks.counts("restored", x, 6, 0);
        Checks.states("restored", x, FRESH, FRESH, FRESH, FRESH, FRESH, FRESH);
        int[] values = {2, 2, 4, 9, 2, 1, 0, 0};
        for (int i = 0; i < values.length; i++) {
            char name = (char) ('a' + i);
            Checks.due("value of " + name, x.value(name, NONE), values[i]);
        }
        Checks.due("a result", x.result(0, NONE), 7);
        Checks.due("a result", x.result(1, NONE), 8);
        Checks.state("no result", () -> x.result(2, NONE));
        Checks.due("a result of a query", x.result(4, NONE), 2);
        Checks.due("a result of rules", x.result(5, NONE), 1);
        Checks.due("run", x.run(2), 0);
        Checks.due("run again", x.run(2), 1);
    }

    /** "keeps the same text": not another one that gives the same. */
    private static void sameText() {
        NotebookWeir x = Checks.notebook("a=1", "b=a", "c=b");
        x.run(2);
        x.checkpoint();
        Checks.edit(x, 1, 0, "b=1*a");
        x.run(2);
        x.kill();
        Checks.due("another text", x.restore(), 1);
        Checks.counts("another text", x, 5, 1);
        Checks.edit(x, 1, 1, "b=a");
        x.run(2);
        x.kill();
        Checks.due("the same text", x.restore(), 0);
        Checks.edit(x, 1, 2, "b=a;1");
        x.run(2);
        x.kill();
        Checks.due("a longer one", x.restore(), 1);
    }

    /** "with the same values" "of all names that they use". */
    private static void sameValues() {
        NotebookWeir x = Checks.notebook("a=1", "b=2", "c=a+b;c", "d=c");
        x.run(3);
        Checks.due("checkpoint", x.checkpoint(), 4);
        Checks.edit(x, 0, 0, "a=2");
        Checks.edit(x, 1, 0, "b=1");
        x.run(3);
        x.kill();
        Checks.due("others with the same sum", x.restore(), 3);
        Checks.due("the sum", x.result(2, NONE), 3);
        Checks.edit(x, 0, 1, "a=1");
        x.run(3);
        x.kill();
        Checks.due("one of two", x.restore(), 3);
        Checks.due("the sum", x.result(2, NONE), 2);
        Checks.edit(x, 1, 1, "b=1+1");
        x.run(3);
        x.kill();
        Checks.due("the same, by another text", x.restore(), 1);
        Checks.due("the sum", x.result(2, NONE), 3);
        NotebookWeir y = Checks.notebook("a=1", "a!1", "b=1;b!a;b");
        y.run(2);
        Checks.due("checkpoint", y.checkpoint(), 3);
        Checks.edit(y, 0, 0, "a=2");
        y.run(2);
        y.kill();
        Checks.due("what is changed is used", y.restore(), 3);
        Checks.due("the sum", y.result(2, NONE), 4);
    }

    private static void sameRows() {
        NotebookWeir x = Checks.notebook("a=[1,2]", "#a");
        x.run(1);
        Checks.due("checkpoint", x.checkpoint(), 1);
        x.kill();
        Checks.due("the row is run, what uses it is kept", x.restore(), 1);
        String[] rows = {"a=[1,3]", "a=[2,2]", "a=[1,2,3]", "a=[1]", "a=[1,2];b=1"};
        int[] runs = {2, 2, 2, 2, 1};
        for (int i = 0; i < rows.length; i++) {
            Checks.edit(x, 0, i, rows[i]);
            x.run(1);
            x.kill();
            Checks.due("restore with " + rows[i], x.restore(), runs[i]);
        }
    }

    /** "the cells that were FRESH when the kernel was killed the last time": no others, though they are kept. */
    private static void freshWhenKilledTheLastTime() {
        NotebookWeir x = Checks.notebook("a=1", "b=a", "c=1");
        Checks.run(x, 1, 2);
        Checks.due("checkpoint", x.checkpoint(), 3);
        x.run(0);
        Checks.due("kill", x.kill(), 2);
        Checks.due("restore", x.restore(), 0);
        Checks.states("one was STALE", x, FRESH, STALE, FRESH);
        x.kill();
        Checks.due("kill again", x.kill(), 0);
        Checks.due("restore", x.restore(), 0);
        Checks.states("none was FRESH the last time", x, STALE, STALE, STALE);
        NotebookWeir y = Checks.notebook("#1", "#2");
        Checks.run(y, 0, 1);
        y.kill();
        y.run(1);
        y.kill();
        Checks.due("one FAILED the last time", y.restore(), 1);
        Checks.states("one FAILED the last time", y, STALE, FAILED);
        y.kill();
        y.kill();
        Checks.due("none FAILED the last time", y.restore(), 0);
        Checks.run(x, 1);
        x.kill();
        x.tick();
        Checks.state("restore", () -> x.restore());
        x.run(2);
        Checks.due("kill", x.kill(), 1);
        Checks.due("restore", x.restore(), 0);
        Checks.states("one was FRESH the last time", x, STALE, STALE, FRESH);
    }

    /** "and those that were FAILED, are run", but not those that are BLOCKED by them. */
    private static void failedOnesAreRun() {
        NotebookWeir x = Checks.notebook("a=1", "b=#a", "c=b", "#1", "d=x");
        Checks.run(x, 0, 1, 3);
        Checks.due("checkpoint", x.checkpoint(), 1);
        Checks.due("kill", x.kill(), 1);
        Checks.due("restore", x.restore(), 2);
        Checks.states("restored", x, FRESH, FAILED, BLOCKED, FAILED, STALE);
        Checks.due("its error", x.error(1), 200);
        Checks.counts("restored", x, 5, 0);
        Checks.edit(x, 0, 0, "a=[1]");
        Checks.run(x, 1);
        x.checkpoint();
        Checks.edit(x, 1, 0, "b=a+1");
        x.run(1);
        x.kill();
        Checks.due("one that FAILED, and was kept with another text", x.restore(), 3);
        Checks.states("restored", x, FRESH, FAILED, BLOCKED, FAILED, STALE);
    }

    /** "in an order as running does": what is needed comes first. */
    private static void inAnOrderAsRunningDoes() {
        NotebookWeir x = new NotebookWeir();
        for (int c = 0; c < 15; c++) {
            Checks.expressions(x, (char) ('a' + c) + "=" + (char) ('b' + c));
        }
        Checks.expressions(x, "p=@");
        x.run(0);
        x.tick();
        x.kill();
        Checks.due("restore", x.restore(), 16);
        Checks.due("kill", x.kill(), 16);
        Checks.due("restore", x.restore(), 16);
        Checks.due("the first one", x.value('a', NONE), 0);
        Checks.due("checkpoint", x.checkpoint(), 15);
        x.kill();
        Checks.due("restore", x.restore(), 1);
        Checks.due("the first one", x.value('a', NONE), 0);
    }

    /** "but with the chance and time that were recorded when they were run last". */
    private static void chanceAndTimeAsRecorded() {
        NotebookWeir x = Checks.notebook("a=?;a", "@", "[a,?,@]", "?");
        x.run(2);
        x.tick();
        Checks.run(x, 0, 1, 2);
        x.tick();
        x.kill();
        x.checkpoint();
        Checks.due("restore", x.restore(), 3);
        Checks.states("restored", x, FRESH, FRESH, FRESH, STALE);
        Checks.due("run last", x.result(0, NONE), Checks.chance(3));
        Checks.due("run last", x.result(1, NONE), 1);
        Checks.due("run last", x.result(2, 0), Checks.chance(3));
        Checks.due("run last", x.result(2, 1), Checks.chance(4));
        Checks.due("run last", x.result(2, 2), 1);
        x.run(3);
        Checks.due("nothing was drawn for that", x.result(3, NONE), Checks.chance(5));
        x.kill();
        Checks.due("restore", x.restore(), 4);
        Checks.due("recorded for that, too", x.result(2, 1), Checks.chance(4));
        x.run(1);
        Checks.due("run anew", x.result(1, NONE), 2);
    }

    private static void twentyOfOneText() {
        NotebookWeir x = Checks.notebook("?+".repeat(19) + "?", "@+".repeat(19) + "@", "?;@;".repeat(9) + "?-@", "?");
        x.tick();
        Checks.run(x, 0, 1, 2);
        int[] results = {x.result(0, NONE), x.result(1, NONE), x.result(2, NONE)};
        int sum = 0;
        for (int i = 1; i <= 20; i++) {
            sum += Checks.chance(i);
        }
        Checks.due("the sum of 20", results[0], sum);
        Checks.due("the sum of 20", results[1], 20);
        Checks.due("the tenth of ten", results[2], Checks.chance(30) - 1);
        x.tick();
        x.kill();
        Checks.due("restore", x.restore(), 3);
        for (int c = 0; c < 3; c++) {
            Checks.due("as recorded", x.result(c, NONE), results[c]);
            Checks.due("as recorded, anew", x.resultAnew(c, NONE), results[c]);
        }
        x.run(3);
        Checks.due("nothing was drawn for that", x.result(3, NONE), Checks.chance(31));
    }

    private static void chanceOfWhatFailed() {
        NotebookWeir x = Checks.notebook("?;x;?", "x+?", "?");
        Checks.run(x, 0, 1);
        x.kill();
        Checks.due("restore", x.restore(), 2);
        Checks.states("restored", x, FAILED, FAILED, STALE);
        Checks.due("its error", x.error(0), 100 * UNTOLD + 2);
        x.run(2);
        Checks.due("nothing was drawn for that", x.result(2, NONE), Checks.chance(2));
    }

    /** "Nothing is restored unless it was killed". */
    private static void notUnlessKilled() {
        NotebookWeir x = new NotebookWeir();
        Checks.state("a new one", () -> x.restore());
        Checks.expressions(x, "1");
        Checks.state("a cell", () -> x.restore());
        x.run(0);
        Checks.state("a FRESH one", () -> x.restore());
        x.checkpoint();
        Checks.state("a checkpoint", () -> x.restore());
        Checks.states("it is as it was", x, FRESH);
        Checks.due("kill", x.kill(), 1);
        Checks.due("restore", x.restore(), 0);
    }

    private static NotebookWeir killed() {
        NotebookWeir x = Checks.notebook("a=1", "b=a", "#1", "?", "c=d", "d=c");
        x.widget('v', 0, 9);
        x.widget('w', 3, 9);
        Checks.run(x, 1, 2, 3);
        x.kill();
        return x;
    }

    /** "and since then no cell was made, edited or run, no widget added or turned, and there was no tick". */
    private static void notAfterCalls() {
        for (int call = 0; call < 12; call++) {
            NotebookWeir x = killed();
            switch (call) {
                case 0 -> Checks.expressions(x, "1");
                case 1 -> Checks.query(x, "e=z<1s");
                case 2 -> Checks.rules(x, "e");
                case 3 -> Checks.edit(x, 0, 0, "a=1");
                case 4 -> Checks.edit(x, 5, 0, "d=1");
                case 5 -> x.run(0);
                case 6 -> x.run(2);
                case 7 -> x.widget('u', 0, 0);
                case 8 -> x.turn(0, 0);
                case 9 -> x.turn(1, 9);
                case 10 -> x.tick();
                default -> x.mode(AT_ONCE);
            }
            int runs = x.runs();
            int state = x.state(1);
            Checks.state("restore after call " + call, () -> x.restore());
            Checks.state("and again", () -> x.restore());
            Checks.counts("nothing is run, after call " + call, x, runs, 0);
            Checks.due("nothing is FRESH, after call " + call, x.state(1), state);
            x.kill();
            Checks.due("killed again, after call " + call, x.restore(), x.runs() - runs);
            Checks.state("twice, after call " + call, () -> x.restore());
        }
        NotebookWeir x = Checks.notebook("a=#1", "a");
        x.run(1);
        x.kill();
        Checks.due("run behind an error", x.run(1), NONE);
        Checks.state("restore after that", () -> x.restore());
    }

    /** In the mode ASKED a result, a value or an error runs a cell, also if the call is refused. */
    private static void notAfterAsking() {
        for (int call = 0; call < 5; call++) {
            NotebookWeir x = killed();
            x.mode(ASKED);
            switch (call) {
                case 0 -> Checks.state("no result", () -> x.result(0, NONE));
                case 1 -> Checks.due("a value", x.value('b', NONE), 1);
                case 2 -> Checks.due("an error", x.error(2), 200);
                case 3 -> Checks.state("no such item", () -> x.value('a', 5));
                default -> Checks.due("no error", x.error(3), 0);
            }
            Checks.state("restore after question " + call, () -> x.restore());
        }
    }

    /** What is none of these leaves it possible. */
    private static void afterOtherCalls() {
        NotebookWeir x = killed();
        Checks.type(x, 0, "a=");
        x.fault(0, NotebookWeir.EXPRESSIONS);
        Checks.state("another version", () -> x.edit(0, 0, 1));
        Checks.due("an edit of no text", x.edit(0, 0, 0), NONE);
        Checks.type(x, 1, "a=");
        Checks.argument("no language", () -> x.cell(1, 3));
        Checks.due("a cell of no text", x.cell(1, NotebookWeir.EXPRESSIONS), NONE);
        Checks.index("no cell", () -> x.edit(0, 6, 0));
        Checks.argument("no mode", () -> x.mode(3));
        Checks.argument("no name", () -> x.widget('{', 0, 1));
        Checks.state("a name again", () -> x.widget('w', 0, 1));
        x.bind(0, 1);
        Checks.argument("no number", () -> x.turn(1, 2));
        Checks.index("no widget", () -> x.turn(2, 3));
        Checks.index("no cell", () -> x.run(6));
        Checks.state("a RING", () -> x.run(4));
        x.mode(ASKED);
        Checks.state("in a RING", () -> x.value('c', NONE));
        Checks.state("in a RING", () -> x.result(4, NONE));
        Checks.due("in a RING", x.error(4), 0);
        Checks.due("a widget", x.value('w', NONE), 3);
        Checks.due("anew", x.resultAnew(3, NONE), 149);
        x.mode(0);
        Checks.state("by hand", () -> x.result(3, NONE));
        x.checkpoint();
        Checks.due("restore after that", x.restore(), 4);
        Checks.states("restored", x, FRESH, FRESH, FAILED, FRESH, RING, RING);
    }

    /** "nor twice", until it is killed again; and in the mode AT_ONCE nothing more is run by that. */
    private static void notTwice() {
        NotebookWeir x = Checks.notebook("a=1", "b=a", "c=1");
        x.run(1);
        for (int i = 0; i < 3; i++) {
            Checks.due("kill", x.kill(), 2);
            Checks.due("restore", x.restore(), 2);
            Checks.state("twice", () -> x.restore());
            Checks.states("restored", x, FRESH, FRESH, STALE);
        }
        x.mode(AT_ONCE);
        Checks.states("at once", x, FRESH, FRESH, FRESH);
        x.kill();
        x.kill();
        Checks.due("restore none", x.restore(), 0);
        Checks.states("at once", x, STALE, STALE, STALE);
        Checks.state("twice", () -> x.restore());
        x.mode(AT_ONCE);
        Checks.states("told again", x, FRESH, FRESH, FRESH);
    }

    /** "a restored kernel answers as the dead one did", with each of the cells in the checkpoint, or not. */
    private static void answersAsTheDeadOne() {
        for (int kept = 0; kept < 3; kept++) {
            NotebookWeir x = Checks.notebook("a=w+1;a", "b=[a,?,@];b", "a!2", "c=b.1-a;c", "#c", "e=1;e!c;e", "z=1");
            Checks.query(x, "f=b>0l");
            Checks.rules(x, "g:c,f;h:g,i;i:h");
            x.widget('w', 4, 9);
            x.tick();
            Checks.run(x, 0, 2, 1, 3, 4, 5, 7, 8);
            if (kept > 0) {
                Checks.due("checkpoint", x.checkpoint(), 5);
            }
            if (kept > 1) {
                x.run(1);
                Checks.run(x, 3, 4, 5, 7, 8);
            }
            x.tick();
            String before = answers(x);
            Checks.due("kill", x.kill(), 7);
            Checks.due("killed, it answers otherwise", answers(x).equals(before) ? 1 : 0, 0);
            // Kept are those without rows, as long as what they use is the same.
            Checks.due("restore", x.restore(), kept == 0 ? 8 : kept == 1 ? 3 : 6);
            String after = answers(x);
            Checks.due(after + " is as " + before, after.equals(before) ? 1 : 0, 1);
        }
    }

    private static String answers(NotebookWeir x) {
        StringBuilder told = new StringBuilder();
        for (int c = 0; c < 9; c++) {
            told.append(x.state(c)).append(' ').append(x.error(c)).append(' ');
            for (int item = NONE; item < 3; item++) {
                int cell = c;
                int which = item;
                told.append(answer(() -> x.result(cell, which))).append(' ');
            }
        }
        for (char name = 'a'; name <= 'j'; name++) {
            for (int item = NONE; item < 3; item++) {
                char by = name;
                int which = item;
                told.append(answer(() -> x.value(by, which))).append(' ');
            }
        }
        return told.toString();
    }

    private static String answer(Checks.Call call) {
        try {
            return call.answer() + "";
        } catch (IllegalStateException e) {
            return "-";
        }
    }
}
