/** Promises 1 to 5: a new object, type, fault, cell, edit. */
public final class TextsTest {
    private static final int E = NotebookWeir.EXPRESSIONS;
    private static final int Q = NotebookWeir.QUERIES;
    private static final int R = NotebookWeir.RULES;
    private static final int NONE = NotebookWeir.NONE;

    public static void main(String[] args) {
        newObject();
        type();
        faultsOfExpressions();
        faultsOfQueries();
        faultsOfRules();
        faultRanges();
        cell();
        edit();
        Checks.end("TextsTest");
    }

    private static void newObject() {
        NotebookWeir x = new NotebookWeir();
        Checks.index("state(0) of a new one", () -> x.state(0));
        Checks.index("shows(0) of a new one", () -> x.shows(0));
        Checks.due("order(0) of a new one", x.order(0), NONE);
        Checks.due("runs of a new one", x.runs(), 0);
        Checks.due("found of a new one", x.found(), 0);
        Checks.state("restore of a new one", () -> x.restore());
        Checks.due("kill of a new one", x.kill(), 0);
        Checks.due("checkpoint of a new one", x.checkpoint(), 0);
        Checks.due("fault of nothing typed", x.fault(0, E), 0);
        Checks.due("mode of a new one", x.mode(NotebookWeir.ASKED), NotebookWeir.BY_HAND);
        Checks.due("the time of a new one, and 1", x.tick(), 1);
        Checks.due("the first cell", Checks.expressions(x, "@"), 0);
        Checks.due("its time", x.result(0, NONE), 1);
    }

    private static void type() {
        NotebookWeir x = new NotebookWeir();
        Checks.argument("type by hand -1", () -> x.type(-1, 'a'));
        Checks.argument("type by hand 2", () -> x.type(2, 'a'));
        for (int i = 1; i <= 40; i++) {
            Checks.due("type " + i, x.type(0, i % 2 == 1 ? '?' : ';'), i);
        }
        Checks.state("type the 41st", () -> x.type(0, 'a'));
        Checks.argument("a wrong hand is told ahead of that", () -> x.type(2, 'a'));
        Checks.due("the other hand has typed nothing", x.type(1, (char) 0), 1);
        Checks.due("any character", x.type(1, (char) 65535), 2);
        Checks.due("any character is no text", x.fault(1, E), 0);
        Checks.due("40 characters end with ;", x.fault(0, E), 40);
        Checks.due("no text of 40 is gone", x.cell(0, E), NONE);
        Checks.due("type after that", x.type(0, 'a'), 1);
    }

    private static void faultsOfExpressions() {
        String[] texts = {"a", "1", "a=1", "a!1", "a;b", "?", "@", "#a", "#[1,2]", "##a", "(1)", "((a+2))*3", "[1]",
            "[1,2,3,4,5,6,7,8]", "a.0", "a.0.9", "[1].0", "(a).1", "#a.0", "a+b-c*d", "a=b;a!a;a", "123456", "a=[1,[2]]",
            "a.1+1", "1.2", "z"};
        for (String text : texts) {
            Checks.fault(text, E, NONE);
        }
        Checks.fault("", E, 0);
        Checks.fault("a=", E, 2);
        Checks.fault("a!", E, 2);
        Checks.fault("a==1", E, 2);
        Checks.fault("a=1=2", E, 3);
        Checks.fault("(a)=1", E, 3);
        Checks.fault("1=2", E, 1);
        Checks.fault("a;", E, 2);
        Checks.fault(";a", E, 0);
        Checks.fault("a;;b", E, 2);
        Checks.fault("ab", E, 1);
        Checks.fault("a b", E, 1);
        Checks.fault("A", E, 0);
        Checks.fault("{", E, 0);
        Checks.fault("-1", E, 0);
        Checks.fault("1234567", E, 6);
        Checks.fault("a=1+1234567", E, 10);
        Checks.fault("a.", E, 2);
        Checks.fault("a.b", E, 2);
        Checks.fault("a.12", E, 3);
        Checks.fault("#", E, 1);
        Checks.fault("#;", E, 1);
        Checks.fault("(", E, 1);
        Checks.fault("()", E, 1);
        Checks.fault("(1", E, 2);
        Checks.fault("(1]", E, 2);
        Checks.fault("(a=1)", E, 2);
        Checks.fault("[", E, 1);
        Checks.fault("[]", E, 1);
        Checks.fault("[1", E, 2);
        Checks.fault("[1,", E, 3);
        Checks.fault("[1,]", E, 3);
        Checks.fault("[1)", E, 2);
        Checks.fault("[1,2,3,4,5,6,7,8,9]", E, 16);
        Checks.fault("[1,2,3,4,5,6,7,8,", E, 16);
        Checks.fault("1+", E, 2);
        Checks.fault("1+*2", E, 2);
        Checks.fault("1**2", E, 2);
        Checks.fault("a!b!c", E, 3);
        Checks.fault("((((((((((((((((((((((((((((((((((((((((", E, 40);
        Checks.fault("[[[[[[[[[[[[[[[[[[[[[[[[[[[[[[[[[[[[[[[[", E, 40);
        Checks.fault("########################################", E, 40);
        Checks.fault("#######################################a", E, NONE);
        Checks.fault("[[[[[[[[[[[[[[[[[[[1]]]]]]]]]]]]]]]]]]]]", E, 39);
        Checks.fault("(((((((((((((((((((1)))))))))))))))))))", E, NONE);
    }

    private static void faultsOfQueries() {
        String[] texts = {"a=b<1s", "a=b>1c", "a=b=1m", "a=b=-1l", "z=z<123456s", "a=b<-123456s", "s=l=2l"};
        for (String text : texts) {
            Checks.fault(text, Q, NONE);
        }
        Checks.fault("", Q, 0);
        Checks.fault("a", Q, 1);
        Checks.fault("a=", Q, 2);
        Checks.fault("a=b", Q, 3);
        Checks.fault("a=b<", Q, 4);
        Checks.fault("a=b<1", Q, 5);
        Checks.fault("a=b<-", Q, 5);
        Checks.fault("a=b<--1s", Q, 5);
        Checks.fault("a=b<s", Q, 4);
        Checks.fault("a=b!1s", Q, 3);
        Checks.fault("a=1<1s", Q, 2);
        Checks.fault("1=b<1s", Q, 0);
        Checks.fault("a!b<1s", Q, 1);
        Checks.fault("a=b<1a", Q, 5);
        Checks.fault("a=b<1ss", Q, 6);
        Checks.fault("a=b<1s;", Q, 6);
        Checks.fault("a=b<1234567s", Q, 10);
        Checks.fault("a=b<-1234567s", Q, 11);
    }

    private static void faultsOfRules() {
        String[] texts = {"a", "a;b", "a:b", "a:b,c,d,e,f", "a:a", "a:b;a:c;a", "a:b,b"};
        for (String text : texts) {
            Checks.fault(text, R, NONE);
        }
        Checks.fault("", R, 0);
        Checks.fault("1", R, 0);
        Checks.fault("a:", R, 2);
        Checks.fault("a:1", R, 2);
        Checks.fault("a:b,", R, 4);
        Checks.fault("a:b,;", R, 4);
        Checks.fault("a:bc", R, 3);
        Checks.fault("ab", R, 1);
        Checks.fault("a,b", R, 1);
        Checks.fault("a;", R, 2);
        Checks.fault("a:b;", R, 4);
        Checks.fault("a:b:c", R, 3);
        Checks.fault("a:b,c,d,e,f,g", R, 11);
        Checks.fault("a:b,c,d,e,f,", R, 11);
    }

    private static void faultRanges() {
        NotebookWeir x = new NotebookWeir();
        Checks.argument("fault by hand -1", () -> x.fault(-1, E));
        Checks.argument("fault by hand 2", () -> x.fault(2, E));
        Checks.argument("fault of language -1", () -> x.fault(0, -1));
        Checks.argument("fault of language 3", () -> x.fault(1, 3));
    }

    private static void cell() {
        NotebookWeir x = new NotebookWeir();
        Checks.type(x, 1, "a");
        Checks.argument("cell by hand 2", () -> x.cell(2, E));
        Checks.argument("cell by hand -1", () -> x.cell(-1, E));
        Checks.argument("cell of language 3", () -> x.cell(1, 3));
        Checks.argument("cell of language -1", () -> x.cell(1, -1));
        Checks.due("nothing is gone by that", x.type(1, ';'), 2);
        Checks.due("a cell of no text", x.cell(1, E), NONE);
        Checks.due("that is gone", x.fault(1, E), 0);
        for (int c = 0; c < 16; c++) {
            Checks.due("cell " + c, Checks.expressions(x, "1"), c);
            Checks.due("its text is gone from the hand", x.fault(0, E), 0);
        }
        Checks.type(x, 0, "a");
        Checks.state("the 17th cell", () -> x.cell(0, E));
        Checks.argument("a wrong language is told ahead of that", () -> x.cell(0, 3));
        Checks.due("what was typed for that is there", x.type(0, '+'), 2);
        Checks.state("the 17th cell of no text", () -> x.cell(0, E));
        Checks.due("order(15)", x.order(15), 15);
        Checks.index("state(16)", () -> x.state(16));
    }

    private static void edit() {
        NotebookWeir x = Checks.notebook("7");
        Checks.query(x, "b=a<1s");
        Checks.type(x, 0, "8");
        Checks.type(x, 1, "9+");
        Checks.index("edit of no cell", () -> x.edit(5, 2, 0));
        Checks.index("edit of cell -1", () -> x.edit(0, -1, 0));
        Checks.argument("edit by hand 2", () -> x.edit(2, 0, 1));
        Checks.argument("edit by hand -1", () -> x.edit(-1, 0, 0));
        Checks.state("edit of another version", () -> x.edit(0, 0, 1));
        Checks.state("edit of another version, of no text", () -> x.edit(1, 0, -1));
        Checks.due("edit", x.edit(0, 0, 0), 1);
        Checks.due("what the hand typed is gone", x.fault(0, E), 0);
        x.run(0);
        Checks.due("its result", x.result(0, NONE), 8);
        Checks.due("edit of no text", x.edit(1, 0, 1), NONE);
        Checks.due("that is gone", x.type(1, '9'), 1);
        Checks.due("that was no edit", x.state(0), NotebookWeir.FRESH);
        Checks.state("edit of the version before", () -> x.edit(1, 0, 0));
        Checks.due("edit by the other hand", x.edit(1, 0, 1), 2);
        Checks.due("that was one", x.state(0), NotebookWeir.STALE);
        Checks.due("a query is no text of expressions", Checks.edit(x, 0, 2, "b=a<1s"), NONE);
        Checks.due("expressions are no text of a query", Checks.edit(x, 1, 0, "a"), NONE);
        Checks.due("another query", Checks.edit(x, 1, 0, "c=a>1s"), 1);
        Checks.due("the same text again counts", Checks.edit(x, 1, 1, "c=a>1s"), 2);
    }
}
