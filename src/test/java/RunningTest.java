/** Promises 6, 12, 24 and 25, and 19, 21 and 22 by modes: what is run, when, and what is found again. */
public final class RunningTest {
    private static final int NONE = NotebookWeir.NONE;
    private static final int FRESH = NotebookWeir.FRESH;
    private static final int STALE = NotebookWeir.STALE;
    private static final int FAILED = NotebookWeir.FAILED;
    private static final int BLOCKED = NotebookWeir.BLOCKED;

    public static void main(String[] args) {
        mode();
        runRanges();
        runWithNeeds();
        runBehindErrors();
        foundAgain();
        lastFour();
        fourByValues();
        notFoundAgain();
        atOnce();
        atOnceEvents();
        asked();
        askedThatThrows();
        chanceAndTime();
        values();
        Checks.end("RunningTest");
    }

    private static void mode() {
        NotebookWeir x = Checks.notebook("1");
        Checks.argument("mode(3)", () -> x.mode(3));
        Checks.argument("mode(-1)", () -> x.mode(-1));
        Checks.due("mode(ASKED)", x.mode(NotebookWeir.ASKED), NotebookWeir.BY_HAND);
        Checks.due("mode(AT_ONCE)", x.mode(NotebookWeir.AT_ONCE), NotebookWeir.ASKED);
        Checks.counts("at once when it is told", x, 1, 0);
        Checks.due("mode(BY_HAND)", x.mode(NotebookWeir.BY_HAND), NotebookWeir.AT_ONCE);
        Checks.edit(x, 0, 0, "2");
        Checks.counts("by hand", x, 1, 0);
        Checks.state("result by hand", () -> x.result(0, NONE));
        Checks.due("error by hand", x.error(0), 0);
        Checks.counts("asked by hand", x, 1, 0);
    }

    private static void runRanges() {
        NotebookWeir x = Checks.notebook("a=b", "b=a", "c=a", "d=1", "d=2", "d");
        Checks.index("run(6)", () -> x.run(6));
        Checks.index("run(-1)", () -> x.run(-1));
        Checks.state("run in a RING", () -> x.run(0));
        Checks.state("run BLOCKED by a RING", () -> x.run(2));
        Checks.state("run TWICE", () -> x.run(3));
        Checks.state("run BLOCKED by TWICE", () -> x.run(5));
        Checks.index("result(6)", () -> x.result(6, NONE));
        Checks.index("result(-1)", () -> x.result(-1, NONE));
        Checks.index("error(6)", () -> x.error(6));
        Checks.index("error(-1)", () -> x.error(-1));
        Checks.argument("value of no name", () -> x.value('A', NONE));
        Checks.argument("value of `", () -> x.value('`', NONE));
        Checks.argument("value of {", () -> x.value('{', NONE));
        Checks.due("error in a RING", x.error(0), 0);
        Checks.counts("none of these", x, 0, 0);
    }

    private static void runWithNeeds() {
        NotebookWeir x = Checks.notebook("a=b+c;a", "b=?", "c=d", "d=?", "e=?", "f=a;f");
        Checks.due("run", x.run(0), 0);
        Checks.states("what it needs", x, FRESH, FRESH, FRESH, FRESH, STALE, STALE);
        Checks.counts("what it needs", x, 4, 0);
        int first = 149;
        int second = (75 * first + 74) % 65537;
        Checks.due("the lowest first", x.value('b', NONE), first);
        Checks.due("then the other", x.value('d', NONE), second);
        Checks.due("its result", x.result(0, NONE), first + second);
        Checks.due("run what is behind", x.run(5), 0);
        Checks.counts("what is FRESH is not run for that", x, 5, 0);
        Checks.due("run again", x.run(3), 0);
        Checks.states("run again", x, STALE, FRESH, STALE, FRESH, STALE, STALE);
        Checks.due("run all behind", x.run(5), 0);
        Checks.counts("STALE ones are run for that", x, 9, 0);
    }

    private static void runBehindErrors() {
        NotebookWeir x = Checks.notebook("a=b+c+d+f", "b=1", "c=[1].1", "d=c", "e=1", "f=2");
        Checks.due("run behind an error", x.run(0), NONE);
        Checks.states("run behind an error", x, BLOCKED, FRESH, FAILED, BLOCKED, STALE, FRESH);
        Checks.counts("others are run", x, 3, 0);
        Checks.state("run what is BLOCKED", () -> x.run(0));
        Checks.due("run what FAILED", x.run(2), 0);
        Checks.counts("an error is not found again", x, 4, 0);
        Checks.due("its error", x.error(2), 300);
        Checks.edit(x, 2, 0, "c=5");
        Checks.due("run then", x.run(0), 0);
        Checks.due("the error then", x.error(2), 0);
        Checks.counts("run then", x, 7, 0);
    }

    private static void foundAgain() {
        NotebookWeir x = Checks.notebook("a=2", "b=a*3;b");
        Checks.due("run", x.run(1), 0);
        Checks.due("found again", x.run(1), 1);
        Checks.counts("found again", x, 2, 1);
        Checks.edit(x, 0, 0, "a=3");
        Checks.due("another value", x.run(1), 0);
        Checks.due("its result", x.result(1, NONE), 9);
        Checks.counts("another value", x, 4, 1);
        Checks.edit(x, 0, 1, "a=1+1");
        Checks.due("the same value, by another text", x.run(1), 1);
        Checks.due("its result", x.result(1, NONE), 6);
        Checks.due("its value", x.value('b', NONE), 6);
        Checks.counts("the same value, by another text", x, 5, 2);
        Checks.edit(x, 1, 0, "b=a*3");
        Checks.due("another text", x.run(1), 0);
        Checks.state("no result of the other text", () -> x.result(1, NONE));
        Checks.edit(x, 1, 1, "b=a*3;b");
        Checks.due("edited back", x.run(1), 1);
        Checks.due("its result", x.result(1, NONE), 6);
        Checks.edit(x, 0, 2, "a=[2]");
        Checks.due("a row is not its number", x.run(1), 0);
        Checks.due("the error", x.error(1), 200);
        Checks.edit(x, 0, 3, "a=2");
        Checks.due("an error is no run to forget others by", x.run(1), 1);
        x.kill();
        Checks.due("killing makes forgotten", x.run(1), 0);
        Checks.due("found again after that", x.run(1), 1);
    }

    private static void lastFour() {
        NotebookWeir x = Checks.notebook("1");
        for (int version = 0; version < 4; version++) {
            Checks.due("run " + version, x.run(0), 0);
            Checks.edit(x, 0, version, version == 3 ? "1" : version + 2 + "");
        }
        Checks.due("the first of four", x.run(0), 1);
        Checks.edit(x, 0, 4, "5");
        Checks.due("a fifth", x.run(0), 0);
        Checks.edit(x, 0, 5, "2");
        Checks.due("the second", x.run(0), 1);
        Checks.edit(x, 0, 6, "1");
        Checks.due("the first is forgotten, though it was found again", x.run(0), 0);
        Checks.edit(x, 0, 7, "2");
        Checks.due("the second is forgotten for that", x.run(0), 0);
        Checks.edit(x, 0, 8, "5");
        Checks.due("the fifth is not", x.run(0), 1);
        Checks.edit(x, 0, 9, "?");
        Checks.due("a text with chance", x.run(0), 0);
        Checks.edit(x, 0, 10, "4");
        Checks.due("takes nobody's place", x.run(0), 1);
    }

    private static void fourByValues() {
        NotebookWeir x = Checks.notebook("b=w+v;b");
        x.widget('w', 0, 9);
        x.widget('v', 0, 9);
        for (int number = 0; number < 4; number++) {
            x.turn(0, number);
            x.tick();
            Checks.due("run with " + number, x.run(0), 0);
        }
        x.turn(0, 0);
        x.turn(1, 3);
        x.tick();
        Checks.due("other values with the same sum", x.run(0), 0);
        x.turn(0, 1);
        x.turn(1, 0);
        x.tick();
        Checks.due("one of the last four", x.run(0), 1);
        Checks.due("its result", x.result(0, NONE), 1);
        x.turn(0, 0);
        x.tick();
        Checks.due("the fifth last", x.run(0), 0);
    }

    private static void notFoundAgain() {
        NotebookWeir x = Checks.notebook("a=1;a!1", "?*0", "@*0", "b=1");
        Checks.query(x, "c=b>0c");
        Checks.rules(x, "d:b");
        for (int c = 0; c < 6; c++) {
            Checks.due("run " + c, x.run(c), 0);
        }
        Checks.due("a text with !", x.run(0), 0);
        Checks.due("a text with ?", x.run(1), 0);
        Checks.due("a text with @", x.run(2), 0);
        Checks.due("a query", x.run(4), 1);
        Checks.due("rules", x.run(5), 1);
        Checks.counts("some are found again", x, 9, 2);
        Checks.due("the result of a query", x.result(4, NONE), 1);
        Checks.due("the result of rules", x.result(5, NONE), 1);
    }

    private static void atOnce() {
        NotebookWeir x = new NotebookWeir();
        x.mode(NotebookWeir.AT_ONCE);
        Checks.expressions(x, "b=a+1");
        Checks.states("made", x, FAILED);
        Checks.expressions(x, "a=1");
        Checks.states("made", x, FRESH, FRESH);
        Checks.counts("made", x, 3, 0);
        Checks.due("value", x.value('b', NONE), 2);
        Checks.edit(x, 1, 0, "a=5");
        Checks.due("value", x.value('b', NONE), 6);
        Checks.counts("edited", x, 5, 0);
        Checks.edit(x, 1, 1, "a=1");
        Checks.counts("edited back", x, 5, 2);
        Checks.edit(x, 1, 2, "c=1");
        Checks.states("the name has no value", x, FAILED, FRESH);
        Checks.counts("the name has no value", x, 7, 2);
        x.run(1);
        Checks.edit(x, 1, 3, "a=7");
        x.run(1);
        Checks.states("run alone runs nothing behind", x, STALE, FRESH);
        Checks.due("told again", x.mode(NotebookWeir.AT_ONCE), NotebookWeir.AT_ONCE);
        Checks.states("told again", x, FRESH, FRESH);
    }

    private static void atOnceEvents() {
        NotebookWeir x = new NotebookWeir();
        x.mode(NotebookWeir.AT_ONCE);
        Checks.expressions(x, "b=w;@");
        Checks.expressions(x, "?");
        Checks.counts("made", x, 2, 0);
        x.widget('w', 1, 9);
        Checks.counts("a widget is added", x, 3, 0);
        x.turn(0, 4);
        Checks.counts("turned", x, 3, 0);
        x.tick();
        Checks.counts("a tick", x, 4, 0);
        Checks.due("time", x.result(0, NONE), 1);
        x.tick();
        Checks.counts("a tick that changes nothing", x, 4, 0);
        Checks.due("an old time is no change", x.result(0, NONE), 1);
        x.kill();
        Checks.states("killed", x, STALE, STALE);
        x.turn(0, 4);
        x.widget('v', 0, 1);
        Checks.states("after the next widget", x, FRESH, FRESH);
        x.kill();
        x.bind(0, 1);
        Checks.states("to bind runs nothing", x, STALE, STALE);
        Checks.type(x, 0, "b=");
        x.edit(0, 0, 0);
        Checks.type(x, 0, "b=");
        x.cell(0, 0);
        Checks.states("nor does what is no text", x, STALE, STALE);
        x.tick();
        Checks.states("a tick does", x, FRESH, FRESH);
    }

    private static void asked() {
        NotebookWeir x = Checks.notebook("a=1;a", "b=a;b", "c=b;c", "d=[1].1", "e=d;e", "f=1");
        x.mode(NotebookWeir.ASKED);
        Checks.counts("told", x, 0, 0);
        Checks.due("a result", x.result(1, NONE), 1);
        Checks.states("a result", x, FRESH, FRESH, STALE, STALE, STALE, STALE);
        Checks.due("a value", x.value('c', NONE), 1);
        Checks.counts("a value", x, 3, 0);
        Checks.due("an error", x.error(3), 300);
        Checks.counts("an error", x, 4, 0);
        Checks.due("not again", x.error(3), 300);
        Checks.counts("not again", x, 4, 0);
        Checks.states("state runs nothing", x, FRESH, FRESH, FRESH, FAILED, BLOCKED, STALE);
        Checks.due("no error of what is BLOCKED", x.error(4), 0);
        Checks.due("anew", x.resultAnew(0, NONE), 1);
        Checks.state("without running", () -> x.resultAnew(5, NONE));
        Checks.states("anew runs nothing", x, FRESH, FRESH, FRESH, FAILED, BLOCKED, STALE);
        Checks.due("no error", x.error(5), 0);
        Checks.states("but it was run", x, FRESH, FRESH, FRESH, FAILED, BLOCKED, FRESH);
        Checks.edit(x, 0, 0, "a=2");
        Checks.due("what it needs is run, too", x.result(2, NONE), 2);
        Checks.counts("what it needs is run, too", x, 8, 0);
    }

    private static void askedThatThrows() {
        NotebookWeir x = Checks.notebook("a=1", "b=[a]", "c=[1].1", "d=c");
        x.mode(NotebookWeir.ASKED);
        Checks.state("no result", () -> x.result(0, NONE));
        Checks.counts("no result", x, 1, 0);
        Checks.state("no such item", () -> x.value('b', 1));
        Checks.counts("no such item", x, 2, 0);
        Checks.state("behind an error", () -> x.value('d', NONE));
        Checks.states("behind an error", x, FRESH, FRESH, FAILED, BLOCKED);
        Checks.counts("behind an error", x, 3, 0);
        Checks.index("no such cell", () -> x.result(4, NONE));
        Checks.state("no such name", () -> x.value('z', NONE));
        Checks.counts("no such cell or name", x, 3, 0);
        Checks.expressions(x, "z!1");
        Checks.state("a name that is changed alone", () -> x.value('z', NONE));
        Checks.counts("a name that is changed alone", x, 3, 0);
    }

    private static void chanceAndTime() {
        NotebookWeir x = Checks.notebook("[?,@,?]", "?+x;?", "?");
        int chance = 149;
        x.tick();
        x.run(0);
        Checks.due("chance", x.result(0, 0), chance);
        Checks.due("time", x.result(0, 1), 1);
        chance = (75 * chance + 74) % 65537;
        Checks.due("chance again", x.result(0, 2), chance);
        x.run(1);
        chance = (75 * chance + 74) % 65537;
        x.kill();
        x.run(2);
        chance = (75 * chance + 74) % 65537;
        Checks.due("chance goes on behind an error, and killing", x.result(2, NONE), chance);
        x.tick();
        x.run(0);
        Checks.due("anew", x.result(0, 0), (75 * chance + 74) % 65537);
        Checks.due("another time", x.result(0, 1), 2);
    }

    private static void values() {
        NotebookWeir x = Checks.notebook("a=[1,2]", "b=5", "b!1", "b!a.1;c=b", "d!1", "e=3", "e=4", "e!1", "f=1;f!2");
        x.widget('w', 7, 9);
        Checks.expressions(x, "w!1");
        Checks.state("not run", () -> x.value('a', NONE));
        for (int c : new int[] {0, 3, 4, 8, 9}) {
            x.run(c);
        }
        Checks.due("how many items", x.value('a', NONE), 2);
        Checks.due("the second item", x.value('a', 1), 2);
        Checks.state("a third item", () -> x.value('a', 2));
        Checks.state("an item below", () -> x.value('a', -2));
        Checks.due("as the last one leaves it", x.value('b', NONE), 8);
        Checks.due("a value behind that", x.value('c', NONE), 8);
        Checks.state("changed, not defined", () -> x.value('d', NONE));
        Checks.state("defined twice", () -> x.value('e', NONE));
        Checks.due("defined and changed by one", x.value('f', NONE), 3);
        Checks.due("a widget that is changed", x.value('w', NONE), 8);
        Checks.state("nobody's", () -> x.value('z', NONE));
        x.run(1);
        Checks.state("not FRESH", () -> x.value('b', NONE));
    }
}
