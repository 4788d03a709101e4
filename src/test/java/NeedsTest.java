/** Promises 16 to 18 and 23: state, needs, ring, order. */
public final class NeedsTest {
    private static final int NONE = NotebookWeir.NONE;
    private static final int FRESH = NotebookWeir.FRESH;
    private static final int STALE = NotebookWeir.STALE;
    private static final int FAILED = NotebookWeir.FAILED;
    private static final int BLOCKED = NotebookWeir.BLOCKED;
    private static final int RING = NotebookWeir.RING;
    private static final int TWICE = NotebookWeir.TWICE;

    public static void main(String[] args) {
        ranges();
        uses();
        changes();
        languages();
        widgets();
        twice();
        rings();
        blocked();
        freshness();
        needsTurnedBack();
        order();
        Checks.end("NeedsTest");
    }

    private static void ranges() {
        NotebookWeir x = Checks.notebook("1");
        Checks.index("state(1)", () -> x.state(1));
        Checks.index("state(-1)", () -> x.state(-1));
        Checks.index("needs(1)", () -> x.needs(1));
        Checks.index("needs(-1)", () -> x.needs(-1));
        Checks.index("ring(1)", () -> x.ring(1));
        Checks.index("ring(-1)", () -> x.ring(-1));
        Checks.index("order(-1)", () -> x.order(-1));
        Checks.due("order(1)", x.order(1), NONE);
        Checks.due("order far away", x.order(Integer.MAX_VALUE), NONE);
    }

    private static void uses() {
        Checks.needs("used", Checks.notebook("a=1", "a", "b=#[a,c]", "b.0+a"), 0, 1, 1, 5);
        Checks.needs("defined ahead is not used", Checks.notebook("a=1", "b=2;b", "b=a;c=b"), 0, 0, 1);
        Checks.needs("itself it does not need", Checks.notebook("a=a+1", "b=b"), 0, 0);
        Checks.needs("used ahead of the definition", Checks.notebook("b=a;a=1;a", "a!1"), 2, 1);
        Checks.needs("no name is used", Checks.notebook("a=1", "[1,2].0;?;@"), 0, 0);
    }

    private static void changes() {
        Checks.needs("one after the other", Checks.notebook("a!1", "a=1", "a!2", "a", "a!3"), 2, 0, 1, 16, 4);
        Checks.needs("defined ahead is no change", Checks.notebook("a=1;a!1", "a"), 0, 1);
        Checks.needs("changed ahead is not used again", Checks.notebook("a=1", "a!1;b=a"), 0, 1);
        Checks.needs("changed without a definition", Checks.notebook("a!1", "a!1", "a"), 0, 1, 2);
        Checks.needs("what it is changed by", Checks.notebook("a=1", "b=2", "a!b", "b"), 0, 0, 3, 2);
        Checks.needs("changed, then defined", Checks.notebook("a!1;a=3", "a"), 0, 1);
        Checks.needs("defined by a statement ahead alone", Checks.notebook("a=1", "b=a;a!b"), 0, 1);
    }

    private static void languages() {
        NotebookWeir x = Checks.notebook("a=[1,2]");
        Checks.query(x, "b=a<1s");
        Checks.rules(x, "p:q,a;q:b;r");
        Checks.expressions(x, "p+r");
        Checks.query(x, "c=c<1s");
        Checks.rules(x, "s:p;p:s");
        Checks.needs("languages", x, 0, 1, 3, 36, 0, 0);
        Checks.states("heads that are defined twice", x, STALE, STALE, TWICE, BLOCKED, STALE, TWICE);
    }

    private static void widgets() {
        NotebookWeir x = Checks.notebook("w", "v=w", "w!1", "w+v");
        Checks.needs("ahead of a widget", x, 4, 4, 0, 6);
        x.widget('u', 0, 9);
        x.widget('w', 0, 9);
        Checks.needs("a widget defines its name", x, 4, 4, 1 << 17, 6);
        x.widget('v', 0, 9);
        Checks.needs("a widget and a cell", x, 4, 4, 1 << 17, 6 | 1 << 18);
        Checks.states("a widget and a cell", x, STALE, TWICE, STALE, BLOCKED);
    }

    private static void twice() {
        NotebookWeir x = Checks.notebook("a=1", "a=2", "a", "b=a;a=3", "c=1", "a!1", "a");
        Checks.needs("defined twice", x, 0, 0, 32, 32, 0, 11, 32);
        Checks.states("defined twice", x, TWICE, TWICE, BLOCKED, TWICE, STALE, RING, BLOCKED);
        Checks.rings("defined twice", x, 0, 0, 0, 40, 0, 40, 0);
        Checks.edit(x, 1, 0, "d=2");
        Checks.edit(x, 3, 0, "b=a");
        Checks.states("once", x, STALE, STALE, STALE, STALE, STALE, STALE, STALE);
        Checks.state("value of a name defined twice", () -> Checks.notebook("a=1", "a=1").value('a', NONE));
        Checks.due("twice in one cell is once", Checks.notebook("a=1;a=2").state(0), STALE);
    }

    private static void rings() {
        NotebookWeir x = Checks.notebook("a=b", "b=c", "c=a", "d=a", "e=f", "f=e+d", "g=g");
        Checks.rings("two rings", x, 7, 7, 7, 0, 48, 48, 0);
        Checks.states("two rings", x, RING, RING, RING, BLOCKED, RING, RING, STALE);
        Checks.edit(x, 1, 0, "b=1");
        Checks.rings("one ring", x, 0, 0, 0, 0, 48, 48, 0);
        Checks.states("one ring", x, STALE, STALE, STALE, STALE, RING, RING, STALE);
        Checks.rings("over a changed name", Checks.notebook("a=b", "a!1", "b=a"), 7, 7, 7);
    }

    private static void blocked() {
        NotebookWeir x = Checks.notebook("a=x", "b=a", "c=b", "d=1", "e=d+c");
        Checks.states("never run", x, STALE, STALE, STALE, STALE, STALE);
        x.run(0);
        Checks.states("behind an error", x, FAILED, BLOCKED, BLOCKED, STALE, BLOCKED);
        x.run(3);
        Checks.states("others run", x, FAILED, BLOCKED, BLOCKED, FRESH, BLOCKED);
        x.widget('x', 5, 9);
        Checks.states("its needs have changed", x, STALE, STALE, STALE, FRESH, STALE);
        x.run(4);
        Checks.states("all run", x, FRESH, FRESH, FRESH, FRESH, FRESH);
    }

    private static void freshness() {
        NotebookWeir x = Checks.notebook("a=w", "b=a", "c=b", "d=1");
        x.widget('w', 1, 9);
        x.run(2);
        x.run(3);
        Checks.states("run", x, FRESH, FRESH, FRESH, FRESH);
        x.turn(0, 5);
        Checks.states("turned, not shown", x, FRESH, FRESH, FRESH, FRESH);
        x.tick();
        Checks.states("shown", x, STALE, STALE, STALE, FRESH);
        x.turn(0, 1);
        x.tick();
        Checks.states("turned back", x, FRESH, FRESH, FRESH, FRESH);
        x.run(0);
        Checks.states("found again", x, FRESH, STALE, STALE, FRESH);
        x.run(1);
        Checks.states("found again", x, FRESH, FRESH, STALE, FRESH);
        Checks.edit(x, 0, 0, "a=w");
        Checks.states("edited, with the same text", x, STALE, STALE, STALE, FRESH);
        x.run(2);
        Checks.states("run", x, FRESH, FRESH, FRESH, FRESH);
        Checks.due("an edit that is no text", Checks.edit(x, 0, 1, "a="), NONE);
        Checks.states("an edit that is no text", x, FRESH, FRESH, FRESH, FRESH);
        Checks.edit(x, 0, 1, "a=[1].3");
        x.run(0);
        Checks.states("an error", x, FAILED, BLOCKED, BLOCKED, FRESH);
        x.kill();
        Checks.states("killed", x, STALE, STALE, STALE, STALE);
    }

    private static void needsTurnedBack() {
        NotebookWeir x = Checks.notebook("a=1", "b=a", "c=x");
        x.run(1);
        x.run(2);
        Checks.states("run", x, FRESH, FRESH, FAILED);
        Checks.expressions(x, "a!1");
        Checks.needs("other needs", x, 0, 8, 0, 1);
        Checks.states("other needs", x, FRESH, STALE, FAILED, STALE);
        Checks.edit(x, 3, 0, "d=1");
        Checks.states("needs as then", x, FRESH, FRESH, FAILED, STALE);
        Checks.edit(x, 3, 1, "x=1");
        Checks.states("needs of what failed", x, FRESH, FRESH, STALE, STALE);
        Checks.edit(x, 3, 2, "a=1");
        Checks.states("defined twice", x, TWICE, BLOCKED, FAILED, TWICE);
        Checks.edit(x, 3, 3, "a!1");
        x.run(0);
        Checks.edit(x, 3, 4, "d=1");
        Checks.states("what it needs again was run since then", x, FRESH, STALE, FAILED, STALE);
    }

    private static void order() {
        Checks.order("none", new NotebookWeir());
        Checks.order("the lowest first", Checks.notebook("a=c", "1", "c=d", "d=2", "2"), 1, 3, 2, 0, 4);
        Checks.order("without TWICE, RING and what they block",
                Checks.notebook("a=1", "a=2", "a", "b=c", "c=b", "d=c", "e=d", "f=g", "g=1"), 8, 7);
        NotebookWeir x = Checks.notebook("a=x", "b=a");
        x.run(0);
        Checks.states("an error", x, FAILED, BLOCKED);
        Checks.order("errors do not matter", x, 0, 1);
        Checks.order("changes", Checks.notebook("a", "a!1", "a!1", "a=1"), 3, 1, 2, 0);
    }
}
