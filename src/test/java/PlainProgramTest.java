/** Promise 20: resultAnew. */
public final class PlainProgramTest {
    private static final int NONE = NotebookWeir.NONE;

    public static void main(String[] args) {
        ranges();
        fromNothing();
        errors();
        recorded();
        Checks.end("PlainProgramTest");
    }

    private static void ranges() {
        NotebookWeir x = Checks.notebook("a=1;[a,2]", "b=c", "c=b;1", "d=c;1", "e=1;1", "e=2;1", "e;1", "f=1");
        Checks.index("resultAnew(8)", () -> x.resultAnew(8, NONE));
        Checks.index("resultAnew(-1)", () -> x.resultAnew(-1, NONE));
        Checks.due("how many items", x.resultAnew(0, NONE), 2);
        Checks.due("the second item", x.resultAnew(0, 1), 2);
        Checks.state("a third item", () -> x.resultAnew(0, 2));
        Checks.state("an item below", () -> x.resultAnew(0, -2));
        Checks.state("in a RING", () -> x.resultAnew(2, NONE));
        Checks.state("BLOCKED by a RING", () -> x.resultAnew(3, NONE));
        Checks.state("TWICE", () -> x.resultAnew(4, NONE));
        Checks.state("BLOCKED by TWICE", () -> x.resultAnew(6, NONE));
        Checks.state("no result", () -> x.resultAnew(7, NONE));
    }

    private static void fromNothing() {
        NotebookWeir x = Checks.notebook("c+a", "a!b", "b=3", "a=4", "a!1", "w+c");
        x.widget('w', 2, 9);
        Checks.query(x, "c=a>0s");
        Checks.due("never run", x.resultAnew(0, NONE), 16);
        Checks.due("with a widget", x.resultAnew(5, NONE), 10);
        Checks.due("a query", x.resultAnew(6, NONE), 8);
        x.turn(0, 7);
        x.tick();
        Checks.due("with what it shows now", x.resultAnew(5, NONE), 15);
        Checks.states("nothing is run by that", x, 1, 1, 1, 1, 1, 1, 1);
        Checks.due("runs", x.runs(), 0);
        Checks.due("run", x.run(0), 0);
        Checks.due("the same", x.result(0, NONE), 16);
        Checks.edit(x, 2, 0, "b=10");
        Checks.due("an edit that was not run", x.resultAnew(0, NONE), 30);
    }

    private static void errors() {
        NotebookWeir x = Checks.notebook("a=x", "b=a;1", "c=b;1", "2", "d=[1].1;1", "3");
        Checks.state("an error", () -> x.resultAnew(0, NONE));
        Checks.state("behind an error", () -> x.resultAnew(1, NONE));
        Checks.state("far behind an error", () -> x.resultAnew(2, NONE));
        Checks.due("not behind it", x.resultAnew(3, NONE), 2);
        Checks.state("another error", () -> x.resultAnew(4, NONE));
        Checks.due("the last one", x.resultAnew(5, NONE), 3);
        Checks.edit(x, 0, 0, "a=1");
        Checks.due("mended", x.resultAnew(2, NONE), 1);
    }

    private static void recorded() {
        NotebookWeir x = Checks.notebook("[?,@]", "?+x;[?,?]", "?");
        x.tick();
        Checks.due("0 for chance", x.resultAnew(0, 0), 0);
        Checks.due("0 for time", x.resultAnew(0, 1), 0);
        x.run(0);
        x.tick();
        Checks.due("chance as it was recorded", x.resultAnew(0, 0), 149);
        Checks.due("time as it was recorded", x.resultAnew(0, 1), 1);
        x.run(2);
        Checks.due("nothing is drawn by that", x.result(2, NONE), (75 * 149 + 74) % 65537);
        x.run(1);
        Checks.due("an error behind the first chance", x.error(1), 100);
        x.widget('x', 5, 9);
        Checks.due("0 beyond", x.resultAnew(1, 0), 0);
        Checks.edit(x, 0, 0, "[@,?]");
        Checks.due("0 for another text", x.resultAnew(0, 0), 0);
        Checks.edit(x, 0, 1, "[?,@]");
        Checks.due("the text as it was", x.resultAnew(0, 0), 149);
        x.kill();
        Checks.due("killing changes nothing of it", x.resultAnew(0, 0), 149);
        Checks.edit(x, 0, 2, "7");
        x.run(0);
        Checks.edit(x, 0, 3, "[?,@]");
        Checks.due("another text was run last", x.resultAnew(0, 0), 0);
    }
}
