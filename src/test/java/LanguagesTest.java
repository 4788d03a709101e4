/** What texts mean in the three languages, as result, value and error tell it (promises 19, 21, 22). */
public final class LanguagesTest {
    private static final int NONE = NotebookWeir.NONE;
    private static final int UNTOLD = NotebookWeir.UNTOLD;
    private static final int KIND = NotebookWeir.KIND;
    private static final int ITEM = NotebookWeir.ITEM;

    public static void main(String[] args) {
        numbers();
        rows();
        statements();
        errors();
        queries();
        rules();
        Checks.end("LanguagesTest");
    }

    private static void givesRow(String text, int... want) {
        NotebookWeir x = Checks.notebook(text);
        Checks.due(text + " runs", x.run(0), 0);
        Checks.due("# of " + text, x.result(0, NONE), want.length);
        for (int i = 0; i < want.length; i++) {
            Checks.due("item " + i + " of " + text, x.result(0, i), want[i]);
        }
        Checks.state("an item too many of " + text, () -> x.result(0, want.length));
        Checks.state("item -2 of " + text, () -> x.result(0, -2));
    }

    private static void numbers() {
        Checks.gives("7", 7);
        Checks.gives("000012", 12);
        Checks.gives("1+2*3", 7);
        Checks.gives("(1+2)*3", 9);
        Checks.gives("1-2-3", -4);
        Checks.gives("1-(2-3)", 2);
        Checks.gives("2*3-4*5+6", -8);
        Checks.gives("999999*999999", -729379967);
        Checks.gives("999999*2148-999999", 999999 * 2148 - 999999);
        Checks.gives("0-999999*2147-999999", 0 - 999999 * 2147 - 999999);
        Checks.gives("(((7)))", 7);
    }

    private static void rows() {
        givesRow("[1]", 1);
        givesRow("[1,2+3,4*5]", 1, 5, 20);
        givesRow("[1,2,3,4,5,6,7,8]", 1, 2, 3, 4, 5, 6, 7, 8);
        Checks.gives("[5,6].0", 5);
        Checks.gives("[5,6].1+1", 7);
        Checks.gives("#[5,6,7]", 3);
        Checks.gives("#[5,6]*#[7,8]", 4);
        givesRow("[[1].0,#[2,3]]", 1, 2);
        Checks.gives("a=[3,4];a.1*a.0", 12);
        givesRow("a=[3,4];b=a;b", 3, 4);
    }

    private static void statements() {
        Checks.gives("1;2", 2);
        Checks.gives("1;a=2", 1);
        Checks.gives("a=2;a;b=3", 2);
        Checks.gives("a=2;a=a+1;a", 3);
        Checks.gives("a=2;a!3;a", 5);
        Checks.gives("a=2;a!a;a!a;a", 8);
        Checks.gives("a=2;b=a;a!1;b", 2);
        Checks.gives("?", 149);
        Checks.gives("?;?", (75 * 149 + 74) % 65537);
        Checks.gives("@", 0);
        NotebookWeir x = Checks.notebook("a=1");
        x.run(0);
        Checks.state("a definition is no result", () -> x.result(0, NONE));
        Checks.state("nor anew", () -> x.resultAnew(0, NONE));
        Checks.due("but a value", x.value('a', NONE), 1);
        Checks.state("without items", () -> x.value('a', 0));
    }

    private static void errors() {
        Checks.fails("a", UNTOLD, 0);
        Checks.fails("1;a", UNTOLD, 2);
        Checks.fails("b=1;b;a=c", UNTOLD, 6);
        Checks.fails("a!1", UNTOLD, 0);
        Checks.fails("1;b=2;a!1", UNTOLD, 6);
        Checks.fails("a=a+1", UNTOLD, 0);
        Checks.fails("b=a;a=1", UNTOLD, 0);
        Checks.fails("a!1;a=2", UNTOLD, 0);
        Checks.fails("[1]+2", KIND, 0);
        Checks.fails("2+[1]", KIND, 0);
        Checks.fails("1;2;[1]*2", KIND, 4);
        Checks.fails("2-[1]", KIND, 0);
        Checks.fails("1.0", KIND, 0);
        Checks.fails("#1", KIND, 0);
        Checks.fails("[[1]]", KIND, 0);
        Checks.fails("a=[1];a!1", KIND, 6);
        Checks.fails("a=1;a![1]", KIND, 4);
        Checks.fails("[1].1", ITEM, 0);
        Checks.fails("[1,2,3,4,5,6,7,8].8", ITEM, 0);
        Checks.fails("1;[1].1", ITEM, 2);
        Checks.fails("[1].0.0", KIND, 0);
        // What is looked at first.
        Checks.fails("[1]+x", UNTOLD, 0);
        Checks.fails("[1]+2+x", KIND, 0);
        Checks.fails("[1]+2*x", UNTOLD, 0);
        Checks.fails("[1]*2*x", KIND, 0);
        Checks.fails("[1].5+x", ITEM, 0);
        Checks.fails("x+[1].5", UNTOLD, 0);
        Checks.fails("[[1],x]", KIND, 0);
        Checks.fails("[x,[1]]", UNTOLD, 0);
        Checks.fails("[[1]+1,x]", KIND, 0);
        Checks.fails("a!([1]+1)", UNTOLD, 0);
        Checks.fails("a=[1];a!x", UNTOLD, 6);
        Checks.fails("a=[1];a![1].9", ITEM, 6);
        Checks.fails("#1+x", KIND, 0);
        Checks.fails("#x.0", UNTOLD, 0);
    }

    private static NotebookWeir queried(String source, String query) {
        NotebookWeir x = Checks.notebook(source);
        Checks.query(x, query);
        Checks.due(query + " runs", x.run(1), 0);
        return x;
    }

    private static void query(String source, String query, int want) {
        NotebookWeir x = queried(source, query);
        Checks.due(query + " of " + source, x.result(1, NONE), want);
        Checks.due(query + " of " + source + " as a value", x.value(query.charAt(0), NONE), want);
        Checks.due(query + " of " + source + " anew", x.resultAnew(1, NONE), want);
    }

    private static void queryRow(String source, String query, int... want) {
        query(source, query, want.length);
        NotebookWeir x = queried(source, query);
        for (int i = 0; i < want.length; i++) {
            Checks.due("item " + i + " of " + query, x.result(1, i), want[i]);
            Checks.due("item " + i + " of " + query + " as a value", x.value(query.charAt(0), i), want[i]);
        }
        Checks.state("an item too many of " + query, () -> x.result(1, want.length));
    }

    private static void queries() {
        String row = "a=[5,0-3,8,5,1]";
        query(row, "b=a<5s", -2);
        query(row, "b=a>1s", 18);
        query(row, "b=a=5s", 10);
        query(row, "b=a>-3c", 4);
        query(row, "b=a<-3c", 0);
        query(row, "b=a=-3c", 1);
        query(row, "b=a<8m", 5);
        query(row, "b=a<0m", -3);
        query(row, "b=a>8m", 0);
        query(row, "b=a>8s", 0);
        queryRow(row, "b=a<6l", 5, -3, 5, 1);
        queryRow(row, "b=a>999999l");
        queryRow("a=7", "b=a=7l", 7);
        query("a=7", "b=a<7c", 0);
        query("a=7", "b=a>6s", 7);
        query("a=999999*2147;a=[a,a]", "b=a>0s", 999999 * 2147 * 2);
        NotebookWeir x = new NotebookWeir();
        Checks.query(x, "b=a<1s");
        Checks.query(x, "c=c<1s");
        x.run(0);
        x.run(1);
        Checks.due("a query of a name without a value", x.error(0), 100 * UNTOLD);
        Checks.due("a query of its own name", x.error(1), 100 * UNTOLD);
    }

    private static void rulesGive(String source, String rules, int want, String heads) {
        NotebookWeir x = Checks.notebook(source);
        Checks.rules(x, rules);
        Checks.due(rules + " runs", x.run(1), 0);
        Checks.due(rules, x.result(1, NONE), want);
        Checks.due(rules + " anew", x.resultAnew(1, NONE), want);
        for (int i = 0; i < heads.length(); i += 2) {
            Checks.due("head " + heads.charAt(i) + " of " + rules, x.value(heads.charAt(i), NONE),
                    heads.charAt(i + 1) - '0');
        }
    }

    private static void rules() {
        rulesGive("a=1", "p", 1, "p1");
        rulesGive("a=1", "p;p;p", 1, "p1");
        rulesGive("a=1", "p:a", 1, "p1");
        rulesGive("a=0", "p:a", 0, "p0");
        rulesGive("a=0-1", "p:a", 1, "p1");
        rulesGive("a=[0]", "p:a", 1, "p1");
        rulesGive("a=1;b=0", "p:a,b;q:a,a", 1, "p0q1");
        rulesGive("a=1;b=0", "p:b;p:a", 1, "p1");
        rulesGive("a=1", "p:q;q:r;r:a", 3, "p1q1r1");
        rulesGive("a=1", "p:p", 0, "p0");
        rulesGive("a=1", "p:q;q:p;r:p;s", 1, "p0q0r0s1");
        rulesGive("a=1", "p:q;q:p;q:a", 2, "p1q1");
        rulesGive("a=1", "p:a,a,a,a,a", 1, "p1");
        NotebookWeir x = Checks.notebook("a=[1]");
        Checks.query(x, "b=a>5l");
        Checks.rules(x, "p:b;q:a");
        Checks.rules(x, "r:a;s;t:a,u;v:w");
        x.run(2);
        Checks.due("a row without items does not hold", x.value('p', NONE), 0);
        Checks.due("a row with items holds", x.value('q', NONE), 1);
        x.run(3);
        Checks.due("a name without a value, clause by clause", x.error(3), 100 * UNTOLD + 6);
    }
}
