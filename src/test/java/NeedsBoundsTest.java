/** The bounds that "Needs" names, and those of the promises 16 to 18 and 23. */
public final class NeedsBoundsTest {
    private static final int NONE = NotebookWeir.NONE;
    private static final int UNTOLD = NotebookWeir.UNTOLD;
    private static final int FRESH = NotebookWeir.FRESH;
    private static final int STALE = NotebookWeir.STALE;
    private static final int FAILED = NotebookWeir.FAILED;
    private static final int BLOCKED = NotebookWeir.BLOCKED;
    private static final int RING = NotebookWeir.RING;
    private static final int TWICE = NotebookWeir.TWICE;
    private static final int CELLS = 16;

    public static void main(String[] args) {
        numbers();
        aChainOfSixteen();
        oneNeedsAllOthers();
        fourWidgets();
        defines();
        changes();
        uses();
        usesInRules();
        leftByChangers();
        leftByDefiners();
        itself();
        onceAndTwice();
        sixteenTimes();
        needsThemAll();
        rings();
        aRingOfSixteen();
        blocked();
        lookedAtInThatOrder();
        order();
        Checks.end("NeedsBoundsTest");
    }

    private static String name(int number) {
        return (char) ('a' + number) + "";
    }

    /** Cells that need one another in a row: the first one needs the second one, and so on. */
    private static NotebookWeir chain(String last) {
        NotebookWeir x = new NotebookWeir();
        for (int c = 0; c < CELLS - 1; c++) {
            Checks.expressions(x, name(c) + "=" + name(c + 1));
        }
        Checks.expressions(x, last);
        return x;
    }

    private static void state(String what, NotebookWeir x, int want) {
        for (int c = 0; c < CELLS; c++) {
            Checks.due(what + ": state(" + c + ")", x.state(c), want);
        }
    }

    /** "Cells are numbered from 0, at most 16": what there is none of is told by questions. */
    private static void numbers() {
        NotebookWeir x = new NotebookWeir();
        for (int c = 0; c <= CELLS; c++) {
            for (int none : new int[] {c, c + 1, -1, Integer.MAX_VALUE, Integer.MIN_VALUE}) {
                Checks.index("state(" + none + ") of " + c, () -> x.state(none));
                Checks.index("needs(" + none + ") of " + c, () -> x.needs(none));
                Checks.index("ring(" + none + ") of " + c, () -> x.ring(none));
            }
            Checks.due("order(" + c + ")", x.order(c), NONE);
            if (c < CELLS) {
                Checks.due("cell", Checks.expressions(x, "1"), c);
                Checks.due("state(" + c + ")", x.state(c), STALE);
                Checks.due("needs(" + c + ")", x.needs(c), 0);
                Checks.due("ring(" + c + ")", x.ring(c), 0);
                Checks.due("order(" + c + ")", x.order(c), c);
            }
        }
        Checks.due("order(MAX_VALUE)", x.order(Integer.MAX_VALUE), NONE);
        Checks.index("order(-1)", () -> x.order(-1));
        Checks.index("order(MIN_VALUE)", () -> x.order(Integer.MIN_VALUE));
    }

    private static void aChainOfSixteen() {
        NotebookWeir x = chain("p=7;p");
        for (int c = 0; c < CELLS; c++) {
            Checks.due("needs(" + c + ")", x.needs(c), c < CELLS - 1 ? 2 << c : 0);
            Checks.due("ring(" + c + ")", x.ring(c), 0);
            Checks.due("order(" + c + ")", x.order(c), CELLS - 1 - c);
        }
        Checks.due("order(16)", x.order(CELLS), NONE);
        state("never run", x, STALE);
        Checks.due("run the first one", x.run(0), 0);
        Checks.counts("all of them", x, CELLS, 0);
        state("run", x, FRESH);
        Checks.due("the value of the first one", x.value('a', NONE), 7);
        Checks.due("checkpoint", x.checkpoint(), CELLS);
        Checks.due("kill", x.kill(), CELLS);
        state("killed", x, STALE);
        Checks.due("restore", x.restore(), 0);
        state("restored", x, FRESH);
        Checks.due("run the last one", x.run(15), 0);
        for (int c = 0; c < CELLS; c++) {
            Checks.due("behind: state(" + c + ")", x.state(c), c < CELLS - 1 ? STALE : FRESH);
        }
        Checks.edit(x, 15, 0, "p=[1].1");
        x.run(15);
        for (int c = 0; c < CELLS; c++) {
            Checks.due("behind an error: state(" + c + ")", x.state(c), c < CELLS - 1 ? BLOCKED : FAILED);
        }
    }

    private static void oneNeedsAllOthers() {
        for (int one = 0; one < CELLS; one += 5) {
            NotebookWeir x = new NotebookWeir();
            StringBuilder sum = new StringBuilder();
            for (int c = 0; c < CELLS; c++) {
                sum.append(c == one ? "" : sum.length() == 0 ? name(c) : "+" + name(c));
            }
            for (int c = 0; c < CELLS; c++) {
                Checks.expressions(x, c == one ? sum.toString() : name(c) + "=" + c);
            }
            Checks.due("needs of " + one, x.needs(one), 65535 & ~(1 << one));
            Checks.due("the last one of the order", x.order(15), one);
            Checks.due("run", x.run(one), 0);
            Checks.due("runs", x.runs(), CELLS);
            Checks.due("result", x.result(one, NONE), 120 - one);
        }
    }

    /** "bit 16 and w, together, for the widget w". */
    private static void fourWidgets() {
        NotebookWeir x = Checks.notebook("w", "x", "y", "z", "w+x+y+z", "z+w", "1");
        Checks.needs("without widgets", x, 0, 0, 0, 0, 0, 0, 0);
        for (int w = 0; w < 4; w++) {
            x.widget((char) ('z' - w), w + 1, 9);
        }
        Checks.needs("four widgets", x, 1 << 19, 1 << 18, 1 << 17, 1 << 16, 15 << 16, 9 << 16, 0);
        Checks.run(x, 4, 5);
        Checks.due("all four", x.result(4, NONE), 10);
        Checks.due("the first and the last one", x.result(5, NONE), 5);
        Checks.rings("four widgets", x, 0, 0, 0, 0, 0, 0, 0);
    }

    /** "A cell defines the names that it gives by = , by a query, or as heads". */
    private static void defines() {
        NotebookWeir x = Checks.notebook("a=1;b=2;1;y=3");
        Checks.query(x, "c=a<1s");
        Checks.rules(x, "d;e:a;d:b;f:e");
        for (String user : new String[] {"a", "b", "y", "c", "d", "e", "f"}) {
            Checks.expressions(x, user);
        }
        Checks.needs("defined", x, 0, 1, 1, 1, 1, 1, 2, 4, 4, 4);
        Checks.edit(x, 0, 0, "a");
        Checks.edit(x, 1, 0, "a=c<1s");
        Checks.edit(x, 2, 0, "c:d,e,f");
        Checks.needs("defined otherwise", x, 2, 4, 0, 2, 0, 0, 4, 0, 0, 0);
    }

    /** "it changes those of !, unless a statement ahead of that defines it". */
    private static void changes() {
        NotebookWeir x = Checks.notebook("a!1", "a=5;a!2", "a;b=a");
        Checks.needs("defined ahead is not changed", x, 2, 0, 1);
        x.run(2);
        Checks.due("what the second one defines, and the first one changes", x.value('a', NONE), 8);
        Checks.edit(x, 1, 0, "a!2;a=5");
        Checks.needs("defined behind is changed", x, 2, 1, 2);
        Checks.rings("defined behind is changed", x, 3, 3, 0);
        Checks.edit(x, 1, 1, "b=a;a!2;a!3");
        Checks.needs("changed again is changed", x, 0, 1, 2);
        Checks.edit(x, 1, 2, "a=1;a!2;a=3;a!4");
        Checks.needs("defined ahead of all", x, 2, 0, 1);
        Checks.edit(x, 1, 3, "c=1;c!1;a!2");
        Checks.needs("another name is defined ahead", x, 0, 1, 2);
        Checks.needs("two names", Checks.notebook("a=1;b=1", "a!1;b!1", "a", "b"), 0, 1, 2, 2);
        Checks.needs("two names, one is defined ahead", Checks.notebook("a=1", "b=1;a!1;b!1", "a", "b"), 0, 1, 2, 2);
        Checks.needs("changes of others", Checks.notebook("b!1", "a=1;b=1", "a!1;b=2;b!2", "b"), 6, 0, 2, 1);
    }

    /** "it uses the other names that stand in it where no statement ahead has defined or changed them". */
    private static void uses() {
        String[] users = {"a", "(a)", "[a]", "[1,2,3,4,5,6,7,a]", "#a", "a.0", "a+1", "1+a", "1-a", "2*a", "b=a",
            "b=1;b!a", "1;2;a", "[1,[2,(a)]].0", "b=a;a=1", "a=a", "a!1", "a!a", "a!1;a!2", "b=1+a;b"};
        for (String user : users) {
            Checks.due("needs by " + user, Checks.notebook(user, "a!1").needs(0), user.contains("a!") ? 0 : 2);
            Checks.due("needs by " + user, Checks.notebook("a!1", user).needs(1), 1);
        }
        String[] others = {"1", "b", "?", "@", "a=1", "a=1;a", "a=1;a!1", "a=1;b=a;#[a]", "a=1;a=a+1", "b=1;b"};
        for (String other : others) {
            Checks.due("needs by " + other, Checks.notebook(other, "a!1").needs(0), 0);
            Checks.due("needs by " + other, Checks.notebook("a!1", other).needs(1), 0);
        }
    }

    /** "(In rules: those that are no heads.)", and in queries the second name. */
    private static void usesInRules() {
        String[] users = {"p:a", "p;q;r:a", "p:q;q:a", "p:a,b,c,d,e", "p:b,c,d,e,a", "p:a;p", "q:p,a;p:q"};
        for (String user : users) {
            NotebookWeir x = Checks.notebook("a=1");
            Checks.rules(x, user);
            Checks.due("needs by " + user, x.needs(1), 1);
        }
        for (String other : new String[] {"p", "p:q", "p:q;q:p", "p:p", "a", "p:a;a", "a:a", "p:a;a:q;q:a"}) {
            NotebookWeir x = Checks.notebook("a!1");
            Checks.rules(x, other);
            Checks.due("needs by " + other, x.needs(1), 0);
        }
        for (String user : new String[] {"b=a<1s", "a=a<1s", "z=a=0l", "s=a>1s"}) {
            NotebookWeir x = Checks.notebook("a!1");
            Checks.query(x, user);
            Checks.due("needs by " + user, x.needs(1), 1);
        }
        NotebookWeir x = Checks.notebook("a!1");
        Checks.query(x, "a=b<1s");
        Checks.due("needs by a=b<1s", x.needs(1), 0);
    }

    /** "if it changes the name, the last cell ahead of it, by numbers, that changes it; otherwise the last of all". */
    private static void leftByChangers() {
        for (int definer = 0; definer < CELLS; definer++) {
            for (int user = 0; user < CELLS; user++) {
                if (user != definer) {
                    changedByOthers(definer, user);
                }
            }
        }
    }

    private static void changedByOthers(int definer, int user) {
        NotebookWeir x = new NotebookWeir();
        for (int c = 0; c < CELLS; c++) {
            Checks.expressions(x, c == definer ? "a=0" : c == user ? "b=a;b" : "a!1");
        }
        String what = definer + " defines, " + user + " uses";
        int last = definer;
        int place = 0;
        Checks.due(what + ": needs(" + definer + ")", x.needs(definer), 0);
        Checks.due(what + ": order(0)", x.order(place++), definer);
        for (int c = 0; c < CELLS; c++) {
            if (c != definer && c != user) {
                Checks.due(what + ": needs(" + c + ")", x.needs(c), 1 << last);
                Checks.due(what + ": order(" + place + ")", x.order(place++), c);
                last = c;
            }
        }
        Checks.due(what + ": needs(" + user + ")", x.needs(user), 1 << last);
        x.run(user);
        Checks.due(what + ": result", x.result(user, NONE), 14);
        Checks.due(what + ": value", x.value('a', NONE), 14);
    }

    /** "without one, in both cases, the cell, or widget, that defines it". */
    private static void leftByDefiners() {
        NotebookWeir x = Checks.notebook("a", "a!1", "w", "w!1");
        Checks.needs("nobody defines", x, 2, 0, 8, 0);
        Checks.expressions(x, "a=1");
        x.widget('w', 0, 9);
        Checks.needs("a cell and a widget define", x, 2, 16, 8, 1 << 16, 0);
        Checks.edit(x, 1, 0, "1");
        Checks.edit(x, 3, 0, "1");
        Checks.needs("nobody changes", x, 16, 0, 1 << 16, 0, 0);
        Checks.edit(x, 4, 0, "1");
        Checks.needs("nobody defines a", x, 0, 0, 1 << 16, 0, 0);
    }

    /** "(and itself it does not need)". */
    private static void itself() {
        for (String text : new String[] {"a=a", "a=a+1;a", "b=a;a=1", "a!1;a=1", "a!1", "a=1;a!1;a", "a=#[a]"}) {
            NotebookWeir x = Checks.notebook(text);
            Checks.needs(text, x, 0);
            Checks.rings(text, x, 0);
            Checks.states(text, x, STALE);
            x.run(0);
            Checks.due("error of " + text, x.error(0), text.equals("a=1;a!1;a") ? 0 : 100 * UNTOLD);
        }
        NotebookWeir x = new NotebookWeir();
        Checks.query(x, "a=a<1s");
        Checks.rules(x, "p:p;q:p,q");
        Checks.needs("a query and rules", x, 0, 0);
        Checks.rings("a query and rules", x, 0, 0);
        Checks.run(x, 0, 1);
        Checks.states("a query and rules", x, FAILED, FRESH);
    }

    /** "A name is defined twice if more than one cell, or a cell and a widget, define it; the cells are TWICE then". */
    private static void onceAndTwice() {
        for (String text : new String[] {"a=1;a=2", "a=1;a!1", "a!1;a!1", "c=a", "1"}) {
            Checks.states("once: " + text, Checks.notebook(text, "b=1", "b!1"), STALE, STALE, STALE);
        }
        NotebookWeir x = Checks.notebook("a=1", "2", "b=2", "3", "a!1;b!1");
        Checks.states("once", x, STALE, STALE, STALE, STALE, STALE);
        Checks.edit(x, 1, 0, "a=2");
        Checks.states("a twice", x, TWICE, TWICE, STALE, STALE, BLOCKED);
        Checks.edit(x, 3, 0, "b=3");
        Checks.states("a and b twice", x, TWICE, TWICE, TWICE, TWICE, BLOCKED);
        Checks.edit(x, 1, 1, "2");
        Checks.states("b twice", x, STALE, STALE, TWICE, TWICE, BLOCKED);
        Checks.edit(x, 2, 0, "2");
        Checks.states("once", x, STALE, STALE, STALE, STALE, STALE);
        x.widget('w', 0, 1);
        Checks.states("a widget of another name", x, STALE, STALE, STALE, STALE, STALE);
        x.widget('a', 0, 1);
        Checks.states("a cell and a widget", x, TWICE, STALE, STALE, STALE, BLOCKED);
        Checks.edit(x, 0, 0, "z=1;c=1;d=1;w=1;y=1");
        Checks.states("one of five names", x, TWICE, STALE, STALE, STALE, STALE);
        NotebookWeir y = Checks.notebook("a=1");
        Checks.query(y, "a=b<1s");
        Checks.rules(y, "b:c");
        Checks.rules(y, "c;b");
        Checks.states("by queries and heads", y, TWICE, TWICE, TWICE, TWICE);
    }

    private static void sixteenTimes() {
        NotebookWeir x = new NotebookWeir();
        for (int c = 0; c < CELLS; c++) {
            Checks.expressions(x, "a=1");
        }
        state("all define it", x, TWICE);
        Checks.due("none is in the plain program", x.order(0), NONE);
        Checks.state("value", () -> x.value('a', NONE));
        Checks.edit(x, 15, 0, "a");
        Checks.due("the last one needs all", x.needs(15), 32767);
        Checks.due("the last one is BLOCKED", x.state(15), BLOCKED);
        x.widget('a', 0, 1);
        Checks.due("and the widget", x.needs(15), 32767 | 1 << 16);
        for (int c = 0; c < 15; c++) {
            Checks.edit(x, c, 0, "1");
        }
        Checks.due("the widget alone", x.needs(15), 1 << 16);
        Checks.due("the widget alone", x.state(15), STALE);
    }

    /** "(and a cell that has that name by those that define it, needs them all)". */
    private static void needsThemAll() {
        NotebookWeir x = Checks.notebook("a=1", "b=a;a=2", "a", "a!1", "a!1", "c=a");
        Checks.needs("those that define it, or the last one that changes it", x, 0, 16, 16, 3, 8, 16);
        Checks.edit(x, 3, 0, "1");
        Checks.edit(x, 4, 0, "1");
        Checks.needs("those that define it", x, 0, 1, 3, 0, 0, 3);
        x.widget('b', 0, 1);
        x.widget('a', 0, 1);
        Checks.needs("and the widget", x, 0, 1 | 1 << 17, 3 | 1 << 17, 0, 0, 3 | 1 << 17);
        Checks.states("and the widget", x, TWICE, TWICE, BLOCKED, STALE, STALE, BLOCKED);
    }

    /** "A cell that needs itself, over others, is in a RING"; ring: "all cells that it needs, and that need it". */
    private static void rings() {
        Checks.rings("two", Checks.notebook("a=b", "b=a"), 3, 3);
        Checks.rings("not both ways", Checks.notebook("a=b", "b=1"), 0, 0);
        NotebookWeir x = Checks.notebook("a=b;f", "b=a+c", "c=b", "d=a", "f=1", "g=d");
        Checks.rings("two rings that share a cell", x, 7, 7, 7, 0, 0, 0);
        Checks.states("two rings that share a cell", x, RING, RING, RING, BLOCKED, STALE, BLOCKED);
        Checks.edit(x, 2, 0, "c=1");
        Checks.rings("one of them", x, 3, 3, 0, 0, 0, 0);
        Checks.edit(x, 5, 0, "g=h");
        Checks.expressions(x, "h=g+d");
        Checks.rings("two rings, one behind the other", x, 3, 3, 0, 0, 0, 96, 96);
        Checks.states("two rings", x, RING, RING, STALE, BLOCKED, STALE, RING, RING);
        Checks.rings("by changes", Checks.notebook("a!b", "b!a"), 3, 3);
        Checks.rings("none by changes of one name", Checks.notebook("a!1", "a!1", "a=1"), 0, 0, 0);
    }

    private static void aRingOfSixteen() {
        NotebookWeir x = chain("p=a");
        state("a ring", x, RING);
        for (int c = 0; c < CELLS; c++) {
            int cell = c;
            Checks.due("ring(" + c + ")", x.ring(c), 65535);
            Checks.state("run(" + c + ")", () -> x.run(cell));
        }
        Checks.due("none is in the plain program", x.order(0), NONE);
        Checks.edit(x, 15, 0, "p=b");
        Checks.due("the first one needs it", x.state(0), BLOCKED);
        Checks.due("the first one is in none", x.ring(0), 0);
        Checks.due("the others", x.ring(15), 65534);
        Checks.edit(x, 15, 1, "p=1");
        state("no ring", x, STALE);
    }

    /** "A cell that needs one that is TWICE, RING, BLOCKED or FAILED is BLOCKED", but not for a STALE one. */
    private static void blocked() {
        NotebookWeir x = Checks.notebook("a=1", "a=1", "b=c", "c=b", "d=[1].1", "e=1", "f=a", "g=b", "h=d", "i=e", "f",
                "g+e", "h;e");
        x.run(4);
        Checks.states("each", x, TWICE, TWICE, RING, RING, FAILED, STALE, BLOCKED, BLOCKED, BLOCKED, STALE, BLOCKED,
                BLOCKED, BLOCKED);
        x.run(9);
        Checks.states("others are run", x, TWICE, TWICE, RING, RING, FAILED, FRESH, BLOCKED, BLOCKED, BLOCKED, FRESH);
        for (int cell : new int[] {6, 7, 8, 10, 11, 12}) {
            Checks.state("run what is BLOCKED: " + cell, () -> x.run(cell));
        }
        Checks.edit(x, 4, 0, "d=1");
        Checks.states("what FAILED is STALE", x, TWICE, TWICE, RING, RING, STALE, FRESH, BLOCKED, BLOCKED, STALE, FRESH,
                BLOCKED, BLOCKED, STALE);
        NotebookWeir y = Checks.notebook("a=x", "b=1", "c=a+b", "c+b");
        y.run(0);
        Checks.states("needs a FAILED and a STALE one", y, FAILED, STALE, BLOCKED, BLOCKED);
    }

    /** "These are looked at in that order, TWICE, RING, BLOCKED". */
    private static void lookedAtInThatOrder() {
        NotebookWeir x = Checks.notebook("a=b", "b=a;c=1", "c=2", "d=c+e", "e=d", "a=c", "g=a");
        Checks.states("what is more than one", x, TWICE, TWICE, TWICE, RING, RING, TWICE, BLOCKED);
        Checks.rings("what is more than one", x, 35, 35, 0, 24, 24, 35, 0);
        NotebookWeir y = Checks.notebook("a=x;a", "b=a+c", "c=b", "d=a;e=1", "e=2");
        y.run(0);
        Checks.states("behind an error", y, FAILED, RING, RING, TWICE, TWICE);
    }

    /** "each when all that it needs stands ahead, the lowest such first". */
    private static void order() {
        Checks.order("one", Checks.notebook("a"), 0);
        Checks.order("none of them needs another", Checks.notebook("1", "2", "3"), 0, 1, 2);
        Checks.order("each time the lowest", Checks.notebook("a=f", "b=1", "c=d", "d=b", "e=1", "f=d"),
                1, 3, 2, 4, 5, 0);
        Checks.order("names that nobody defines", Checks.notebook("z=b", "b=x"), 1, 0);
        Checks.order("TWICE alone", Checks.notebook("a=1", "a=1"));
        Checks.order("a RING, and what it needs", Checks.notebook("a=b+c", "b=a", "c=1", "d=a"), 2);
        NotebookWeir x = Checks.notebook("a=x", "b=a", "c=b");
        x.run(0);
        Checks.states("an error", x, FAILED, BLOCKED, BLOCKED);
        Checks.order("BLOCKED by one that FAILED", x, 0, 1, 2);
        NotebookWeir y = Checks.notebook("1", "2");
        Checks.type(y, 0, "x=");
        y.cell(0, NotebookWeir.EXPRESSIONS);
        Checks.order("what is no text is no cell", y, 0, 1);
    }
}
