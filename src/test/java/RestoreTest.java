/** Promises 13 to 15: checkpoint, kill, restore. */
public final class RestoreTest {
    private static final int NONE = NotebookWeir.NONE;
    private static final int FRESH = NotebookWeir.FRESH;
    private static final int STALE = NotebookWeir.STALE;
    private static final int FAILED = NotebookWeir.FAILED;
    private static final int BLOCKED = NotebookWeir.BLOCKED;

    public static void main(String[] args) {
        checkpoint();
        kill();
        restoreWithoutCheckpoint();
        restoreWithCheckpoint();
        checkpointOfAnotherText();
        checkpointOfOtherValues();
        chanceAndTime();
        notPossible();
        stillPossible();
        Checks.end("RestoreTest");
    }

    private static void checkpoint() {
        NotebookWeir x = Checks.notebook("a=1", "a!1", "b=[1]", "[1,2]", "#[1]", "?", "@", "c=[1];c=2", "x", "d=b;1");
        Checks.due("nothing is FRESH", x.checkpoint(), 0);
        for (int c = 0; c < 10; c++) {
            x.run(c);
        }
        // Kept are a=1, a!1, #[1], c=2; but no rows, no chance or time, no errors.
        Checks.due("numbers alone", x.checkpoint(), 4);
        x.run(0);
        Checks.due("a!1 is STALE then", x.checkpoint(), 3);
    }

    private static void kill() {
        NotebookWeir x = Checks.notebook("a=1", "b=a", "x", "c=1");
        x.run(1);
        x.run(2);
        Checks.due("how many were FRESH", x.kill(), 2);
        Checks.states("killed", x, STALE, STALE, STALE, STALE);
        Checks.due("again", x.kill(), 0);
        Checks.state("no value", () -> x.value('a', NONE));
        Checks.due("no error", x.error(2), 0);
        Checks.due("runs are counted still", x.runs(), 3);
    }

    private static void restoreWithoutCheckpoint() {
        NotebookWeir x = Checks.notebook("b=a;b", "a=1", "c=[1].1", "d=c", "e=1");
        x.run(0);
        x.run(2);
        x.kill();
        Checks.due("two that were FRESH, and one that FAILED", x.restore(), 3);
        Checks.states("restored", x, FRESH, FRESH, FAILED, BLOCKED, STALE);
        Checks.due("its result", x.result(0, NONE), 1);
        Checks.due("its error", x.error(2), 300);
        Checks.due("runs", x.runs(), 6);
        Checks.due("found", x.found(), 0);
        Checks.due("these runs are found again", x.run(0), 1);
        Checks.state("not twice", () -> x.restore());
    }

    private static void restoreWithCheckpoint() {
        NotebookWeir x = Checks.notebook("a=1;a", "a!1", "b=[a]", "c=a+@;c", "d=c+1;d");
        for (int c = 0; c < 5; c++) {
            x.run(c);
        }
        Checks.due("numbers alone", x.checkpoint(), 3);
        x.kill();
        Checks.due("the others are run", x.restore(), 2);
        Checks.states("restored", x, FRESH, FRESH, FRESH, FRESH, FRESH);
        Checks.due("a", x.value('a', NONE), 2);
        Checks.due("b", x.value('b', 0), 2);
        Checks.due("c", x.result(3, NONE), 2);
        Checks.due("d", x.result(4, NONE), 3);
        Checks.due("a result that was kept", x.result(0, NONE), 1);
        Checks.due("runs", x.runs(), 7);
        x.kill();
        Checks.due("the checkpoint stays", x.restore(), 2);
        Checks.due("what is kept was no run", x.run(0), 0);
        x.kill();
        Checks.due("another checkpoint takes its place", x.checkpoint(), 0);
        Checks.due("only the one that is FRESH by that", x.restore(), 1);
        Checks.states("restored", x, FRESH, STALE, STALE, STALE, STALE);
    }

    private static void checkpointOfAnotherText() {
        NotebookWeir x = Checks.notebook("a=1", "b=a");
        x.run(1);
        Checks.due("checkpoint", x.checkpoint(), 2);
        Checks.edit(x, 0, 0, "a=2-1");
        x.run(1);
        x.kill();
        Checks.due("another text is run, the same values are kept", x.restore(), 1);
        Checks.due("b", x.value('b', NONE), 1);
        Checks.edit(x, 0, 1, "a=1");
        x.run(1);
        x.kill();
        Checks.due("edited back", x.restore(), 0);
        Checks.edit(x, 0, 2, "a=x");
        x.run(0);
        x.kill();
        Checks.due("what FAILED is run", x.restore(), 1);
        Checks.states("what FAILED is run", x, FAILED, BLOCKED);
    }

    private static void checkpointOfOtherValues() {
        NotebookWeir x = Checks.notebook("a=w", "b=a;b");
        x.widget('w', 1, 9);
        x.run(1);
        Checks.due("checkpoint", x.checkpoint(), 2);
        x.turn(0, 4);
        x.tick();
        x.run(1);
        x.kill();
        Checks.due("other values are run", x.restore(), 2);
        Checks.due("b", x.result(1, NONE), 4);
        x.turn(0, 1);
        x.tick();
        Checks.due("turned back", x.run(1), 0);
        x.kill();
        Checks.due("the same values are kept", x.restore(), 0);
        Checks.due("b", x.result(1, NONE), 1);
    }

    private static void chanceAndTime() {
        NotebookWeir x = Checks.notebook("[?,@,?]", "?+x;?", "?");
        x.tick();
        x.run(0);
        x.run(1);
        x.tick();
        x.run(0);
        int first = x.result(0, 0);
        int last = x.result(0, 2);
        x.tick();
        x.checkpoint();
        x.kill();
        Checks.due("run for that", x.restore(), 2);
        Checks.due("chance as it was recorded", x.result(0, 0), first);
        Checks.due("time as it was recorded", x.result(0, 1), 2);
        Checks.due("chance as it was recorded", x.result(0, 2), last);
        x.run(2);
        Checks.due("nothing was drawn for that", x.result(2, NONE), (75 * last + 74) % 65537);
        x.kill();
        Checks.due("once more", x.restore(), 3);
        Checks.due("recorded still", x.result(0, 2), last);
        Checks.due("anew", x.resultAnew(0, 2), last);
    }

    private static void notPossible() {
        for (int what = 0; what < 9; what++) {
            NotebookWeir x = Checks.notebook("a=1", "b=[1].1");
            x.widget('w', 0, 9);
            x.run(0);
            Checks.state("restore what was not killed", () -> x.restore());
            x.kill();
            switch (what) {
                case 0 -> Checks.expressions(x, "c");
                case 1 -> Checks.edit(x, 0, 0, "a=1");
                case 2 -> x.run(0);
                case 3 -> x.run(1);
                case 4 -> x.widget('v', 0, 1);
                case 5 -> x.turn(0, 0);
                case 6 -> x.tick();
                case 7 -> x.mode(NotebookWeir.AT_ONCE);
                default -> x.restore();
            }
            Checks.state("restore after " + what, () -> x.restore());
            x.kill();
            Checks.due("restore when killed again, after " + what, Math.min(x.restore(), 0), 0);
        }
    }

    private static void stillPossible() {
        NotebookWeir x = Checks.notebook("a=1", "b=a", "c=c1");
        x.widget('w', 0, 9);
        x.widget('v', 0, 9);
        x.run(1);
        x.kill();
        Checks.type(x, 0, "a=");
        x.edit(0, 0, 0);
        Checks.type(x, 0, "a=");
        x.cell(0, 0);
        Checks.state("an edit of another version", () -> x.edit(0, 0, 7));
        Checks.index("no such widget", () -> x.turn(5, 0));
        Checks.argument("no such number", () -> x.turn(0, 10));
        Checks.state("a widget again", () -> x.widget('w', 0, 1));
        Checks.index("run of no cell", () -> x.run(3));
        x.bind(0, 1);
        x.mode(NotebookWeir.ASKED);
        Checks.state("anew", () -> x.resultAnew(0, NONE));
        x.checkpoint();
        Checks.due("restore after that", x.restore(), 2);
        x.kill();
        Checks.state("a value that is asked for", () -> x.value('b', 5));
        Checks.state("that was run", () -> x.restore());
        NotebookWeir y = Checks.notebook("a=b", "b=a");
        y.kill();
        y.mode(NotebookWeir.AT_ONCE);
        Checks.due("nothing to run at once", y.restore(), 0);
        y.kill();
        y.kill();
        Checks.due("killed twice", y.restore(), 0);
    }
}
