/** The bounds that "Values, languages" names: what is taken last, what is not, the empty and the full. */
public final class ValuesBoundsTest {
    private static final int E = NotebookWeir.EXPRESSIONS;
    private static final int Q = NotebookWeir.QUERIES;
    private static final int R = NotebookWeir.RULES;
    private static final int NONE = NotebookWeir.NONE;
    private static final int UNTOLD = NotebookWeir.UNTOLD;
    private static final int KIND = NotebookWeir.KIND;
    private static final int ITEM = NotebookWeir.ITEM;
    private static final String EIGHT = "[1,2,3,4,5,6,7,8]";
    private static final String MOST = "999999*2147+485794";
    private static final String LEAST = "0-999999*2147-485795";

    public static void main(String[] args) {
        numbers();
        digits();
        rowsOfEight();
        rowsWithoutItems();
        names();
        fortyCharacters();
        depths();
        laterStatements();
        comparisons();
        queriesOfNumbers();
        summaries();
        queriesOfFullRows();
        queryNumbers();
        namesBehindColons();
        clauses();
        leastHolding();
        otherNames();
        results();
        placesOfErrors();
        kinds();
        items();
        lookedAtFirst();
        Checks.end("ValuesBoundsTest");
    }

    /** Runs a second cell, behind one of EXPRESSIONS that it needs. */
    private static NotebookWeir ran(String source, String text, int language) {
        NotebookWeir x = Checks.notebook(source);
        Checks.type(x, 0, text);
        x.cell(0, language);
        x.run(1);
        return x;
    }

    private static void query(String source, String query, int want) {
        NotebookWeir x = ran(source, query, Q);
        Checks.due(query + " of " + source, x.result(1, NONE), want);
        Checks.due(query + " of " + source + " as a value", x.value(query.charAt(0), NONE), want);
    }

    private static void queryRow(String source, String query, int... want) {
        query(source, query, want.length);
        NotebookWeir x = ran(source, query, Q);
        for (int i = 0; i < want.length; i++) {
            Checks.due("item " + i + " of " + query + " of " + source, x.result(1, i), want[i]);
        }
        Checks.state("an item too many of " + query, () -> x.result(1, want.length));
    }

    /** What heads of rules are defined as, told by a digit for each. */
    private static void heads(String source, String rules, String names, String want) {
        NotebookWeir x = ran(source, rules, R);
        int holding = 0;
        for (int i = 0; i < names.length(); i++) {
            int holds = want.charAt(i) - '0';
            Checks.due("head " + names.charAt(i) + " of " + rules, x.value(names.charAt(i), NONE), holds);
            holding += holds;
        }
        Checks.due("how many heads of " + rules + " hold", x.result(1, NONE), holding);
    }

    /** "A value is a number, an int"; "+ - * are of numbers, with overflow"; "it becomes the sum". */
    private static void numbers() {
        Checks.gives(MOST, Integer.MAX_VALUE);
        Checks.gives(LEAST, Integer.MIN_VALUE);
        Checks.gives(MOST + "+1", Integer.MIN_VALUE);
        Checks.gives(LEAST + "-1", Integer.MAX_VALUE);
        Checks.gives("65536*32767*2+65535", 65536 * 32767 * 2 + 65535);
        Checks.gives("65536*32768", Integer.MIN_VALUE);
        Checks.gives("65536*65536", 0);
        Checks.gives("46340*46340", 46340 * 46340);
        Checks.gives("46341*46341", 46341 * 46341);
        Checks.gives("0-65536*32768", Integer.MIN_VALUE);
        Checks.gives("a=" + MOST + ";a!1;a", Integer.MIN_VALUE);
        Checks.gives("a=" + LEAST + ";a!0-1;a", Integer.MAX_VALUE);
        Checks.gives("a=" + MOST + ";a!0;a", Integer.MAX_VALUE);
        Checks.gives("1-1", 0);
        Checks.gives("0-1", -1);
    }

    /** "a number of 1 to 6 digits (as many as there are)". */
    private static void digits() {
        Checks.gives("0", 0);
        Checks.gives("9", 9);
        Checks.gives("10", 10);
        Checks.gives("99999", 99999);
        Checks.gives("100000", 100000);
        Checks.gives("999999", 999999);
        Checks.gives("000000", 0);
        Checks.gives("000009", 9);
        Checks.fault("999999", E, NONE);
        Checks.fault("9999999", E, 6);
        Checks.fault("0000000", E, 6);
    }

    /** "a row of at most 8 numbers"; "[ 1 to 8 expressions, with commas between them ]". */
    private static void rowsOfEight() {
        Checks.gives("#" + EIGHT, 8);
        Checks.gives("#[1,2,3,4,5,6,7]", 7);
        Checks.gives("#[1]", 1);
        Checks.gives("[1].0", 1);
        Checks.gives(EIGHT + ".0", 1);
        Checks.gives(EIGHT + ".7", 8);
        Checks.fault("[1,2,3,4,5,6,7,8,9]", E, 16);
        Checks.fault("[]", E, 1);
        NotebookWeir x = Checks.notebook("a=" + EIGHT, "a");
        x.run(1);
        for (int item = 0; item < 8; item++) {
            Checks.due("result of a row of 8", x.result(1, item), item + 1);
            Checks.due("value of a row of 8", x.value('a', item), item + 1);
            Checks.due("result of a row of 8 anew", x.resultAnew(1, item), item + 1);
        }
        Checks.due("how many", x.result(1, NONE), 8);
        Checks.due("how many", x.value('a', NONE), 8);
        Checks.due("how many anew", x.resultAnew(1, NONE), 8);
        for (int item : new int[] {8, 9, 27, 216, Integer.MAX_VALUE, -2, -8, Integer.MIN_VALUE}) {
            Checks.state("result: item " + item, () -> x.result(1, item));
            Checks.state("value: item " + item, () -> x.value('a', item));
            Checks.state("anew: item " + item, () -> x.resultAnew(1, item));
        }
    }

    /** A row without items, as "the row of them" is one if there are none; "the greatest one (0 without any)". */
    private static void rowsWithoutItems() {
        NotebookWeir x = Checks.notebook("a=[1]", "#e", "e.0", "e+1", "[e]", "f=e;f", "b=5;b!e");
        Checks.query(x, "e=a>1l");
        for (String query : new String[] {"p=e<9s", "q=e=0c", "r=e>0m", "s=e<9l"}) {
            Checks.query(x, query);
        }
        Checks.rules(x, "h:e");
        Checks.run(x, 1, 2, 3, 4, 5, 6, 8, 9, 10, 11, 12);
        Checks.due("how many items", x.result(7, NONE), 0);
        Checks.due("how many items", x.value('e', NONE), 0);
        Checks.due("how many items anew", x.resultAnew(7, NONE), 0);
        Checks.state("no first item", () -> x.result(7, 0));
        Checks.state("no first item", () -> x.value('e', 0));
        Checks.state("no first item anew", () -> x.resultAnew(7, 0));
        Checks.due("#e", x.result(1, NONE), 0);
        Checks.due("e.0", x.error(2), 100 * ITEM);
        Checks.due("e+1", x.error(3), 100 * KIND);
        Checks.due("[e]", x.error(4), 100 * KIND);
        Checks.due("a row without items is a value", x.result(5, NONE), 0);
        Checks.due("b!e", x.error(6), 100 * KIND + 4);
        Checks.due("the sum of none", x.value('p', NONE), 0);
        Checks.due("how many of none", x.value('q', NONE), 0);
        Checks.due("the greatest one without any", x.value('r', NONE), 0);
        Checks.due("the row of none", x.value('s', NONE), 0);
        Checks.state("the row of none", () -> x.value('s', 0));
        Checks.due("a row without items does not hold", x.value('h', NONE), 0);
    }

    /** "Names are a to z", at each place that a name has. */
    private static void names() {
        for (char name = 'a'; name <= 'z'; name++) {
            char other = name == 'z' ? 'a' : (char) (name + 1);
            NotebookWeir x = ran(name + "=7;" + name + "!1", other + "=" + name + ";" + name, E);
            Checks.due("value of " + name, x.value(name, NONE), 8);
            Checks.due("value of " + other, x.value(other, NONE), 8);
            Checks.due("result of " + name, x.result(1, NONE), 8);
            Checks.due("changed by another cell: " + name, ran(name + "=7", name + "!1", E).value(name, NONE), 8);
            query(name + "=7", other + "=" + name + "=7c", 1);
            heads(name + "=7", other + ":" + name, other + "", "1");
            heads(name + "=0", other + ":" + name, other + "", "0");
            NotebookWeir y = Checks.notebook(name + "");
            y.run(0);
            Checks.due("no value of " + name, y.error(0), 100 * UNTOLD);
            y.widget(name, 5, 6);
            y.run(0);
            Checks.due("a widget of " + name, y.result(0, NONE), 5);
        }
        for (char name : new char[] {'`', '{', 'A', 'Z', '_'}) {
            Checks.fault(name + "", E, 0);
            Checks.fault("a=" + name, E, 2);
            Checks.fault(name + "=a<1s", Q, 0);
            Checks.fault("a=" + name + "<1s", Q, 2);
            Checks.fault(name + "", R, 0);
            Checks.fault("a:" + name, R, 2);
            Checks.fault("a:b," + name, R, 4);
        }
    }

    /** "A text has at most 40 characters": such a text runs as shorter ones do; "any number of" is as many as fit. */
    private static void fortyCharacters() {
        Checks.gives("1;".repeat(19) + "12", 12);
        Checks.gives("1+".repeat(19) + "12", 31);
        Checks.gives("9-".repeat(19) + "12", 9 - 18 * 9 - 12);
        Checks.gives("2*".repeat(19) + "12", 12 << 19);
        Checks.due("changed nine times", ran("1", "a=1;" + "a!a;".repeat(8) + "a!12", E).value('a', NONE), 268);
        Checks.gives("#[1]" + "+1".repeat(18), 19);
        Checks.fails("#".repeat(39) + "a", UNTOLD, 0);
        Checks.fails("#".repeat(39) + "1", KIND, 0);
        Checks.fails("[1]" + ".0".repeat(18), KIND, 0);
        heads("a=1", "b;c;d;e;f;g;h;i;j;k;l;m;n;o;p;q;r;s;t;u", "bcdefghijklmnopqrstu", "1".repeat(20));
        Checks.fault("1;".repeat(20), E, 40);
        Checks.fault("a;".repeat(20), R, 40);
    }

    /** Parts that stand in parts, as deep as 40 characters let them be. */
    private static void depths() {
        Checks.gives("(".repeat(19) + "12" + ")".repeat(19), 12);
        Checks.gives("1+(".repeat(9) + "1234" + ")".repeat(9), 1243);
        Checks.gives("1-(".repeat(9) + "1234" + ")".repeat(9), -1233);
        Checks.gives("1+1*(".repeat(6) + "1234" + ")".repeat(6), 1240);
        Checks.gives("[".repeat(9) + "1234" + "].0".repeat(9), 1234);
        Checks.gives("#[".repeat(12) + "1234" + "]".repeat(12), 1);
        Checks.gives("[1,1,1,1,1,1,1,#" + EIGHT + "].7", 8);
        Checks.fails("[".repeat(19) + "12" + "]".repeat(19), KIND, 0);
    }

    /** "Names that a statement has defined or changed have that value in later ones", not in itself or ahead. */
    private static void laterStatements() {
        Checks.gives("a=1;a=a+1;a=a+1;a", 3);
        Checks.gives("a=1;b=a;a=5;b", 1);
        Checks.gives("a=1;a!a+1;a", 3);
        Checks.gives("a=1;a![a,a].1;a", 2);
        Checks.gives("a=1;b=2;c=3;a+b+c", 6);
        Checks.fails("a=a", UNTOLD, 0);
        Checks.fails("b=a;a=1", UNTOLD, 0);
        Checks.fails("a=b;b=a", UNTOLD, 0);
        Checks.due("changed here, later", ran("a=1", "a!1;a", E).result(1, NONE), 2);
        Checks.due("changed here, ahead", ran("a=1", "b=a;a!1;b", E).result(1, NONE), 1);
        Checks.due("defined here behind that", ran("1", "b=1;b!1;b=7;b!1;b", E).result(1, NONE), 8);
    }

    /** "those that are less than, greater than, or the same as the number". */
    private static void comparisons() {
        String row = "a=[4,5,6]";
        queryRow(row, "b=a<5l", 4);
        queryRow(row, "b=a>5l", 6);
        queryRow(row, "b=a=5l", 5);
        queryRow(row, "b=a<4l");
        queryRow(row, "b=a>6l");
        queryRow(row, "b=a=7l");
        queryRow(row, "b=a<7l", 4, 5, 6);
        queryRow(row, "b=a>3l", 4, 5, 6);
        queryRow("a=[0,0-1,1]", "b=a<-0l", -1);
        queryRow("a=[0,0-1,1]", "b=a>000000l", 1);
        queryRow("a=[0,0-1,1]", "b=a=-1l", -1);
        String far = "a=[" + MOST + "];a=[a.0,a.0+1]";
        query(far, "b=a>999999c", 1);
        query(far, "b=a>999999m", Integer.MAX_VALUE);
        query(far, "b=a<-999999c", 1);
        query(far, "b=a<-999999m", Integer.MIN_VALUE);
    }

    /** "of the second name's items (of a number itself)". */
    private static void queriesOfNumbers() {
        queryRow("a=5", "b=a=5l", 5);
        queryRow("a=5", "b=a<5l");
        query("a=5", "b=a<6s", 5);
        query("a=5", "b=a<6c", 1);
        query("a=5", "b=a>4m", 5);
        query("a=5", "b=a>5m", 0);
        query("a=0-5", "b=a<0m", -5);
        queryRow("a=[5]", "b=a=5l", 5);
    }

    /** "their sum (with overflow), how many they are, the greatest one (0 without any), or the row of them". */
    private static void summaries() {
        query("a=[1,2,3]", "b=a>0s", 6);
        query("a=[1,2,3]", "b=a>3s", 0);
        query("a=[1,2,3]", "b=a>0c", 3);
        query("a=[1,2,3]", "b=a>3c", 0);
        query("a=[1,3,2]", "b=a>0m", 3);
        query("a=[1,2,3]", "b=a>0m", 3);
        query("a=[3,2,1]", "b=a>0m", 3);
        query("a=[0-3,0-1,0-2]", "b=a<0m", -1);
        query("a=[0-3,0-1,0-2]", "b=a>0m", 0);
        query("a=[9,1,2]", "b=a<9m", 2);
        queryRow("a=[3,1,3,2]", "b=a>1l", 3, 3, 2);
        String most = "a=" + MOST + ";a=[a,1]";
        query(most, "b=a>0s", Integer.MIN_VALUE);
        String least = "a=" + LEAST + ";a=[a,0-1]";
        query(least, "b=a<0s", Integer.MAX_VALUE);
    }

    private static void queriesOfFullRows() {
        String row = "a=" + EIGHT;
        queryRow(row, "b=a>0l", 1, 2, 3, 4, 5, 6, 7, 8);
        query(row, "b=a>0s", 36);
        query(row, "b=a>0c", 8);
        query(row, "b=a>0m", 8);
        query(row, "b=a=8m", 8);
        query("a=[8,1,1,1,1,1,1,1]", "b=a>0m", 8);
        queryRow("a=[7,7,7,7,7,7,7,7]", "b=a=7l", 7, 7, 7, 7, 7, 7, 7, 7);
    }

    /** "a number of 1 to 6 digits, perhaps with - ahead". */
    private static void queryNumbers() {
        query("a=999999", "b=a=999999c", 1);
        query("a=999998", "b=a=999999c", 0);
        query("a=0-999999", "b=a=-999999c", 1);
        query("a=0", "b=a=0c", 1);
        query("a=0", "b=a=-0c", 1);
        query("a=7", "b=a=000007c", 1);
        query("a=0-7", "b=a=7c", 0);
        Checks.fault("b=a=1234567c", Q, 10);
        Checks.fault("b=a=-1234567c", Q, 11);
        Checks.fault("b=a=c", Q, 4);
        Checks.fault("b=a=-c", Q, 5);
        Checks.fault("b=a=--1c", Q, 5);
    }

    /** "a name, : and 1 to 5 names": all of them are looked at. */
    private static void namesBehindColons() {
        heads("a=1", "p:a", "p", "1");
        heads("a=1;b=1;c=1;d=1;e=1", "p:a,b,c,d,e", "p", "1");
        for (char none = 'a'; none <= 'e'; none++) {
            heads("a=1;b=1;c=1;d=1;e=1;" + none + "=0", "p:a,b,c,d,e", "p", "0");
        }
        Checks.fault("p:a,b,c,d,e", R, NONE);
        Checks.fault("p:a,b,c,d,e,f", R, 11);
        Checks.fault("p:", R, 2);
    }

    /** "A head holds if there is a clause of it whose other names all hold", be it the first one or the last one. */
    private static void clauses() {
        heads("a=1;b=0", "p:a;p:b;p:b", "p", "1");
        heads("a=1;b=0", "p:b;p:a;p:b", "p", "1");
        heads("a=1;b=0", "p:b;p:b;p:a", "p", "1");
        heads("a=1;b=0", "p:b;p:b;p:b", "p", "0");
        heads("a=1;b=0", "p:b;p", "p", "1");
        heads("a=1;b=0", "p:a,b;p:b,a", "p", "0");
        heads("a=1;b=0", "p:a;q:b;r:p;s:q;t:r,s", "pqrst", "10100");
    }

    /** "the least such holding is meant": heads that hold by one another alone do not, in however many clauses. */
    private static void leastHolding() {
        heads("z=1", "a:b;b:c;c:d;d:e;e:f;f:g;g:h;h:i;i:j;j:z", "abcdefghij", "1111111111");
        heads("z=0", "a:b;b:c;c:d;d:e;e:f;f:g;g:h;h:i;i:j;j:z", "abcdefghij", "0000000000");
        heads("z=1", "a:b;b:c;c:d;d:e;e:f;f:g;g:h;h:i;i:j;j:a", "abcdefghij", "0000000000");
        heads("z=1", "j:i;i:h;h:g;g:f;f:e;e:d;d:c;c:b;b:a;a:z", "abcdefghij", "1111111111");
        heads("z=1", "a:a;b:a;c:b,d;d", "abcd", "0001");
        heads("z=1", "a:a;a:z", "a", "1");
        heads("z=1", "a:a,z", "a", "0");
    }

    /** "other names hold if their value is a number that is not 0, or a row with items". */
    private static void otherNames() {
        heads("a=0", "p:a", "p", "0");
        heads("a=1", "p:a", "p", "1");
        heads("a=0-1", "p:a", "p", "1");
        heads("a=65536*32768", "p:a", "p", "1");
        heads("a=65536*65536", "p:a", "p", "0");
        heads("a=[0]", "p:a", "p", "1");
        heads("a=[0,0,0,0,0,0,0,0]", "p:a", "p", "1");
    }

    /** "its last statement that is an expression; what a query defines; how many heads hold". */
    private static void results() {
        Checks.gives("1;2;3", 3);
        Checks.gives("1;a=2;b=3", 1);
        Checks.gives("a=2;1;b=3", 1);
        NotebookWeir x = Checks.notebook("a=1;b=2", "c=[1,2];c;d=3;d!1", "[1];2", "2;[1]");
        Checks.query(x, "q=a>1l");
        Checks.rules(x, "p;p;p:p");
        Checks.rules(x, "r:p;s:q");
        Checks.run(x, 0, 1, 2, 3, 4, 6);
        Checks.state("no statement is an expression", () -> x.result(0, NONE));
        Checks.due("a row ahead of numbers", x.result(1, NONE), 2);
        Checks.due("a number behind a row", x.result(2, NONE), 2);
        Checks.state("a number behind a row", () -> x.result(2, 0));
        Checks.due("a row behind a number", x.result(3, NONE), 1);
        Checks.due("a row behind a number", x.result(3, 0), 1);
        Checks.due("a query", x.result(4, NONE), 0);
        Checks.due("a head of three clauses is one", x.result(5, NONE), 1);
        Checks.due("a head of two", x.result(6, NONE), 1);
        heads("a=1", "p:a;q:a;r:b;b:r", "pqrb", "1100");
        heads("a=0", "p:a;q:a", "pq", "00");
    }

    /** "Errors of a run point to the first character of the statement or clause (0 for queries)". */
    private static void placesOfErrors() {
        Checks.fails("x", UNTOLD, 0);
        Checks.fails("1;x", UNTOLD, 2);
        Checks.fails("1;".repeat(19) + "x", UNTOLD, 38);
        Checks.fails("10;" + "1;".repeat(18) + "x", UNTOLD, 39);
        Checks.fails("1;" + "a=" + "1+".repeat(16) + "x;7", UNTOLD, 2);
        Checks.fails("x;y", UNTOLD, 0);
        Checks.fails("1;[1].1;y", ITEM, 2);
        Checks.due("of a query", ran("1", "b=a<1s", Q).error(1), 100 * UNTOLD);
        Checks.due("of a query behind other texts", ran("1;2;3", "b=a<1s", Q).error(1), 100 * UNTOLD);
        Checks.due("the first clause", ran("1", "p:a", R).error(1), 100 * UNTOLD);
        Checks.due("the fifth name", ran("a=1;b=1;c=1;d=1", "p:a,b,c,d,e", R).error(1), 100 * UNTOLD);
        Checks.due("the second clause", ran("a=1", "p:a;q:b", R).error(1), 100 * UNTOLD + 4);
        Checks.due("the last clause", ran("1", "a;".repeat(18) + "a:b", R).error(1), 100 * UNTOLD + 36);
        Checks.due("clause by clause", ran("a=0", "p:a,b;q:c", R).error(1), 100 * UNTOLD);
        Checks.due("heads have no value ahead", ran("a=0", "p:q;q:p;r:a,z", R).error(1), 100 * UNTOLD + 8);
        Checks.due("also names of clauses that are not needed", ran("a=0", "p;p:b", R).error(1), 100 * UNTOLD + 2);
    }

    /** "KIND: something should be a number, or a row". */
    private static void kinds() {
        String[] texts = {"[1]+1", "1+[1]", "[1]-1", "1-[1]", "[1]*1", "1*[1]", "[1]+[1]", "[[1]]", "[1,[1]]",
            "[1,2,3,4,5,6,7,[8]]", "#1", "#(1+1)", "1.0", "(1).0", "[1].0.0", "#[1].0", "##[1]", "#?", "@.0"};
        for (String text : texts) {
            Checks.fails(text, KIND, 0);
        }
        Checks.fails("a=[1];a!1", KIND, 6);
        Checks.fails("a=1;a![1]", KIND, 4);
        Checks.fails("a=[1];a![1]", KIND, 6);
        Checks.gives("([1]).0", 1);
        Checks.gives("#([1])", 1);
        Checks.gives("(#[1])+1", 2);
    }

    /** "ITEM: a row has no such item". */
    private static void items() {
        for (int count = 1; count <= 8; count++) {
            String row = EIGHT.substring(0, 2 * count) + "]";
            Checks.gives(row + "." + (count - 1), count);
            for (int item = count; item <= 9; item++) {
                Checks.fails(row + "." + item, ITEM, 0);
            }
        }
    }

    /** "What is looked at first". */
    private static void lookedAtFirst() {
        Checks.fails("[1].1+x", ITEM, 0);
        Checks.fails("x+[1].1", UNTOLD, 0);
        Checks.fails("#1+[1].1", KIND, 0);
        Checks.fails("[1].1*x+#1", ITEM, 0);
        // "both sides of + - * ahead of that"
        Checks.fails("[1]+[1].1", ITEM, 0);
        Checks.fails("[1]-x", UNTOLD, 0);
        Checks.fails("[1]*x", UNTOLD, 0);
        Checks.fails("1+[1]*x", UNTOLD, 0);
        Checks.fails("1+[1]+x", KIND, 0);
        Checks.fails("1*[1]*x", KIND, 0);
        Checks.fails("[1]+([1]+x)", UNTOLD, 0);
        // "each item of [ ] as it ends"
        Checks.fails("[[1],x]", KIND, 0);
        Checks.fails("[[1]+x,[1].1]", UNTOLD, 0);
        Checks.fails("[1,[2],[1].1]", KIND, 0);
        Checks.fails("[1,[1].1,[2]]", ITEM, 0);
        // "whether a name that is changed has a value ahead of what it is changed by"
        Checks.fails("x![1].1", UNTOLD, 0);
        Checks.fails("x!#1", UNTOLD, 0);
        Checks.fails("a=[1];a![1].1", ITEM, 6);
        Checks.fails("a=[1];a!x", UNTOLD, 6);
    }
}
