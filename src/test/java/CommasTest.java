/**
 * Texts with commas from end to end: the runs of ../shared/tests, whose texts have lost theirs, with the commas put back.
 * What is due was found by hand from the document.
 */
public final class CommasTest {
    private static final int NONE = NotebookWeir.NONE;
    private static final int EXPRESSIONS = NotebookWeir.EXPRESSIONS;
    private static final int QUERIES = NotebookWeir.QUERIES;
    private static final int RULES = NotebookWeir.RULES;
    private static final int STALE = NotebookWeir.STALE;

    public static void main(String[] args) {
        atOnce();
        faults();
        asked();
        Checks.end("CommasTest");
    }

    /** The chance and time, the widgets, and how many heads hold, as the row and the rules tell them. */
    private static void due(String what, NotebookWeir x, int time, int firstChance, int w) {
        int[] row = {time, Checks.chance(firstChance), Checks.chance(firstChance + 1), w};
        Checks.due(what + ": how many items", x.result(0, NONE), row.length);
        for (int item = 0; item < row.length; item++) {
            Checks.due(what + ": item " + item, x.result(0, item), row[item]);
            Checks.due(what + ": item " + item + " anew", x.resultAnew(0, item), row[item]);
        }
        Checks.due(what + ": heads", x.result(2, NONE), 2);
    }

    private static void atOnce() {
        NotebookWeir x = new NotebookWeir();
        x.mode(NotebookWeir.AT_ONCE);
        x.widget('w', 0, 10);
        x.widget('v', -5, 5);
        x.widget('u', 3, 900);
        x.bind(0, 1);
        x.bind(1, 2);
        Checks.due("a row of four", Checks.expressions(x, "t=@;r=?;s=?;[t,r,s,w]"), 0);
        Checks.due("a query", Checks.query(x, "k=r>3s"), 1);
        Checks.due("rules of two names", Checks.rules(x, "h:v,u;g:h,k;g:w"), 2);
        due("made", x, 0, 1, 0);
        x.turn(0, 9);
        Checks.show(x, 0, 7);
        Checks.shows("the first one is turned", x, 7, 5, 7);
        due("the first one is turned", x, 1, 3, 7);
        Checks.due("two heads hold by two names each", x.value('g', NONE), 1);
        Checks.due("the row is not kept, the rules are", x.checkpoint(), 2);
        x.turn(1, -2);
        Checks.show(x, 2, 800);
        Checks.shows("two are turned", x, 0, -2, 800);
        due("two are turned", x, 2, 5, 0);
        Checks.counts("two are turned", x, 9, 0);
        Checks.due("killed", x.kill(), 3);
        Checks.due("killed", x.state(0), STALE);
        Checks.due("all have other values than were kept", x.restore(), 3);
        due("restored", x, 2, 5, 0);
        Checks.counts("restored", x, 12, 0);
        x.kill();
        x.tick();
        Checks.state("behind a tick", () -> x.restore());
        due("the tick ran all", x, 3, 7, 0);
        Checks.due("not bound any more", x.bind(2, 1) ? 1 : 0, 0);
        Checks.show(x, 0, 1);
        Checks.shows("bound to one", x, 1, 1, 800);
        due("bound to one", x, 4, 9, 1);
        Checks.due("edited", Checks.edit(x, 1, 0, "k=r<30000c"), 1);
        Checks.due("one of a number", x.result(1, NONE), 1);
        Checks.order("edited", x, 0, 1, 2);
    }

    private static void faults() {
        Checks.fault("[t,r,s,w]", EXPRESSIONS, NONE);
        Checks.fault("[a,a].1", EXPRESSIONS, NONE);
        Checks.fault("[a,a].1", QUERIES, 0);
        Checks.fault("[a,a].1", RULES, 0);
        Checks.fault("h:v,u;g:h,k;g:w", RULES, NONE);
        Checks.fault("p:q,r,s,t,u", RULES, NONE);
        Checks.fault("p:q,r,s,t,u,v", EXPRESSIONS, 1);
        Checks.fault("p:q,r,s,t,u,v", QUERIES, 1);
        Checks.fault("p:q,r,s,t,u,v", RULES, 11);
        Checks.fault("p:q,", RULES, 4);
        Checks.fault("p:,q", RULES, 2);
        Checks.fault("[n,2,n", EXPRESSIONS, 6);
        Checks.fault("[n,2,]", EXPRESSIONS, 5);
        Checks.fault("n,2", EXPRESSIONS, 1);
    }

    /** Edits the number that the row is of; tells it and how many of the row are above 1, with runs and findings. */
    private static void numberIs(NotebookWeir x, int edits, int number, int above, int runs, int found) {
        String what = "n=" + number + " as edit " + edits;
        Checks.due(what, Checks.edit(x, 3, edits - 1, "n=" + number), edits);
        Checks.due(what, x.state(2), STALE);
        Checks.due(what, x.result(2, NONE), number);
        Checks.due(what, x.result(1, NONE), above);
        Checks.counts(what, x, runs, found);
    }

    private static void asked() {
        NotebookWeir x = Checks.notebook("b=[n,2,n]");
        x.mode(NotebookWeir.ASKED);
        Checks.query(x, "q=b>1l");
        Checks.expressions(x, "#q;n");
        Checks.expressions(x, "n=1");
        Checks.due("asked for", x.result(2, NONE), 1);
        Checks.due("the row of what is above 1", x.result(1, NONE), 1);
        Checks.counts("asked for", x, 4, 0);
        numberIs(x, 1, 5, 3, 8, 0);
        numberIs(x, 2, 1, 1, 8, 4);
        numberIs(x, 3, 0, 1, 12, 4);
        numberIs(x, 4, 7, 3, 16, 4);
        numberIs(x, 5, 8, 3, 20, 4);
        numberIs(x, 6, 9, 3, 24, 4);
        numberIs(x, 7, 1, 1, 28, 4);
        Checks.due("rows are not kept", x.checkpoint(), 2);
        Checks.due("killed", x.kill(), 4);
        Checks.due("asked for", x.value('q', NONE), 1);
        Checks.due("asked for", x.value('q', 0), 2);
        Checks.state("behind what was run", () -> x.restore());
        Checks.due("one of three that are FRESH", x.checkpoint(), 1);
        Checks.due("killed again", x.kill(), 3);
        Checks.due("rows are run", x.restore(), 2);
        Checks.due("the row", x.result(1, 0), 2);
        Checks.counts("restored", x, 33, 4);
        Checks.due("a row in a row", Checks.edit(x, 3, 7, "n=[1]"), 8);
        Checks.state("a row in a row", () -> x.result(2, NONE));
        Checks.due("a row in a row", x.error(0), 100 * NotebookWeir.KIND);
        Checks.due("behind that", x.error(2), 0);
        Checks.due("behind that", x.state(1), NotebookWeir.BLOCKED);
        Checks.counts("a row in a row", x, 35, 4);
        Checks.due("killed", x.kill(), 1);
        Checks.due("restored", x.restore(), 2);
        Checks.due("restored", x.error(0), 100 * NotebookWeir.KIND);
        Checks.due("restored", x.state(2), NotebookWeir.BLOCKED);
    }
}
