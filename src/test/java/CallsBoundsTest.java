/** The bounds of the promises 1 to 5: a new object, what hands type, cells that are made and edited. */
public final class CallsBoundsTest {
    private static final int E = NotebookWeir.EXPRESSIONS;
    private static final int Q = NotebookWeir.QUERIES;
    private static final int R = NotebookWeir.RULES;
    private static final int NONE = NotebookWeir.NONE;
    private static final int[] FAR = {Integer.MIN_VALUE, -1, Integer.MAX_VALUE};

    public static void main(String[] args) {
        aNewObject();
        objectsOfTheirOwn();
        fortyByEachHand();
        wrongHands();
        wrongLanguages();
        faultChangesNothing();
        whatIsNoTextIsGone();
        sixteenCells();
        versions();
        twoHands();
        textsOfItsLanguage();
        eachHandAndLanguage();
        callsToTheLastOne();
        Checks.end("CallsBoundsTest");
    }

    /** "No cells and widgets; the time 0; by hand." */
    private static void aNewObject() {
        NotebookWeir x = new NotebookWeir();
        for (int none : new int[] {0, 1, 15, 16, FAR[0], FAR[1], FAR[2]}) {
            Checks.index("state", () -> x.state(none));
            Checks.index("needs", () -> x.needs(none));
            Checks.index("ring", () -> x.ring(none));
            Checks.index("run", () -> x.run(none));
            Checks.index("result", () -> x.result(none, NONE));
            Checks.index("resultAnew", () -> x.resultAnew(none, NONE));
            Checks.index("error", () -> x.error(none));
            Checks.index("edit", () -> x.edit(0, none, 0));
            Checks.index("shows", () -> x.shows(none));
            Checks.index("turn", () -> x.turn(none, 0));
            Checks.index("bind", () -> x.bind(none, none) ? 1 : 0);
        }
        for (char name = 'a'; name <= 'z'; name++) {
            char by = name;
            Checks.state("value of " + name, () -> x.value(by, NONE));
        }
        Checks.due("order", x.order(0), NONE);
        Checks.counts("a new one", x, 0, 0);
        Checks.due("checkpoint", x.checkpoint(), 0);
        Checks.state("restore", () -> x.restore());
        for (int hand = 0; hand < 2; hand++) {
            for (int language = E; language <= R; language++) {
                Checks.due("nothing is typed", x.fault(hand, language), 0);
            }
        }
        Checks.due("by hand", x.mode(NotebookWeir.BY_HAND), NotebookWeir.BY_HAND);
        Checks.due("the time is 0, and 1", x.tick(), 1);
    }

    /** What is done with one object tells nothing of another one. */
    private static void objectsOfTheirOwn() {
        NotebookWeir x = new NotebookWeir();
        NotebookWeir y = new NotebookWeir();
        Checks.type(x, 0, "?");
        x.cell(0, E);
        Checks.type(x, 0, "12");
        x.mode(NotebookWeir.AT_ONCE);
        x.widget('w', 0, 9);
        x.turn(0, 4);
        x.tick();
        x.checkpoint();
        x.kill();
        Checks.due("cells", Checks.expressions(y, "?"), 0);
        Checks.due("typed", y.type(0, '1'), 1);
        Checks.due("mode", y.mode(NotebookWeir.BY_HAND), NotebookWeir.BY_HAND);
        Checks.due("runs", y.runs(), 0);
        Checks.due("widgets", y.widget('w', 1, 9), 0);
        Checks.due("shows", y.shows(0), 1);
        Checks.due("time", y.tick(), 1);
        Checks.state("not killed", () -> y.restore());
        y.run(0);
        Checks.due("chance", y.result(0, NONE), 149);
    }

    /** "Throws IllegalStateException if it has typed 40", each hand for itself, and again when that is gone. */
    private static void fortyByEachHand() {
        NotebookWeir x = new NotebookWeir();
        for (int round = 0; round < 3; round++) {
            for (int i = 1; i <= 40; i++) {
                Checks.due("type by hand 0", x.type(0, i < 40 ? '#' : 'a'), i);
                if (i % 2 == 0) {
                    Checks.due("type by hand 1", x.type(1, i % 4 == 0 ? ';' : '1'), i / 2);
                }
            }
            Checks.state("the 41st", () -> x.type(0, 'a'));
            Checks.state("any character", () -> x.type(0, (char) 65535));
            Checks.argument("no hand", () -> x.type(2, 'a'));
            Checks.due("the 40 are there", x.fault(0, E), NONE);
            if (round == 0) {
                Checks.due("a cell", x.cell(0, E), 0);
            } else if (round == 1) {
                Checks.due("an edit", x.edit(0, 0, 0), 1);
            } else {
                Checks.due("no text", x.cell(0, R), NONE);
            }
            Checks.due("that is gone", x.fault(0, E), 0);
            Checks.due("the other hand's 20 are not", x.fault(1, E), 20);
            x.cell(1, E);
            Checks.due("that is gone", x.fault(1, E), 0);
        }
        Checks.due("the first one of the next", x.type(0, 'a'), 1);
    }

    private static void wrongHands() {
        NotebookWeir x = Checks.notebook("1");
        for (int hand : new int[] {-1, 2, 3, FAR[0], FAR[2]}) {
            for (int language = -1; language <= 3; language++) {
                int by = language;
                Checks.argument("fault", () -> x.fault(hand, by));
                Checks.argument("cell", () -> x.cell(hand, by));
            }
            Checks.argument("type", () -> x.type(hand, 'a'));
            Checks.argument("edit", () -> x.edit(hand, 0, 0));
            Checks.argument("edit of another version", () -> x.edit(hand, 0, 1));
            Checks.index("edit of no cell", () -> x.edit(hand, 1, 0));
        }
        Checks.due("hand 0", x.type(0, '1'), 1);
        Checks.due("hand 1", x.type(1, '1'), 1);
        Checks.due("cell by hand 0", x.cell(0, E), 1);
        Checks.due("cell by hand 1", x.cell(1, E), 2);
    }

    private static void wrongLanguages() {
        NotebookWeir x = new NotebookWeir();
        Checks.type(x, 0, "a");
        for (int language : new int[] {-1, 3, 4, FAR[0], FAR[2]}) {
            Checks.argument("fault", () -> x.fault(0, language));
            Checks.argument("cell", () -> x.cell(0, language));
        }
        Checks.due("as it was", x.type(0, '+'), 2);
        Checks.due("EXPRESSIONS", x.fault(0, E), 2);
        Checks.due("QUERIES", x.fault(0, Q), 1);
        Checks.due("RULES", x.fault(0, R), 1);
    }

    /** A fault is told, and what is typed stays, so that it can go on. */
    private static void faultChangesNothing() {
        NotebookWeir x = new NotebookWeir();
        String text = "a=b<-12s";
        int[] queries = {1, 2, 3, 4, 5, 6, 7, NONE};
        int[] expressions = {NONE, 2, NONE, 3, 3, 3, 3, 3};
        int[] rules = {NONE, 1, 1, 1, 1, 1, 1, 1};
        for (int i = 0; i < text.length(); i++) {
            Checks.due("type", x.type(1, text.charAt(i)), i + 1);
            for (int again = 0; again < 2; again++) {
                Checks.due("as a query", x.fault(1, Q), queries[i]);
                Checks.due("as expressions", x.fault(1, E), expressions[i]);
                Checks.due("as rules", x.fault(1, R), rules[i]);
                Checks.due("the other hand", x.fault(0, Q), 0);
            }
        }
        Checks.due("a cell of it", x.cell(1, Q), 0);
    }

    /** "also what is no text is gone by that", also nothing at all; but not by a refused call. */
    private static void whatIsNoTextIsGone() {
        NotebookWeir x = new NotebookWeir();
        for (int language = E; language <= R; language++) {
            Checks.due("a cell of nothing", x.cell(0, language), NONE);
            Checks.type(x, 0, "1a");
            Checks.due("a cell of no text", x.cell(0, language), NONE);
            Checks.due("it is gone", x.type(0, '1'), 1);
            Checks.due("a cell of no text", x.cell(0, language), language == E ? 0 : NONE);
        }
        Checks.due("an edit by nothing", x.edit(0, 0, 0), NONE);
        Checks.type(x, 0, "1+");
        Checks.due("an edit by no text", x.edit(0, 0, 0), NONE);
        Checks.due("it is gone", x.fault(0, E), 0);
        Checks.type(x, 0, "2");
        Checks.state("another version", () -> x.edit(0, 0, 1));
        Checks.index("no cell", () -> x.edit(0, 1, 0));
        Checks.argument("no hand", () -> x.edit(2, 0, 0));
        Checks.due("that is not gone", x.edit(0, 0, 0), 1);
        x.run(0);
        Checks.due("its result", x.result(0, NONE), 2);
    }

    /** "Throws IllegalStateException if there are 16", of whatever language. */
    private static void sixteenCells() {
        String[] texts = {"1", "a=b<1s", "a"};
        for (int first = E; first <= R; first++) {
            NotebookWeir x = new NotebookWeir();
            for (int c = 0; c < 16; c++) {
                int language = (first + c) % 3;
                Checks.type(x, c % 2, texts[language]);
                Checks.due("cell", x.cell(c % 2, language), c);
                Checks.due("a cell of nothing", c < 15 ? x.cell(c % 2, language) : NONE, NONE);
            }
            Checks.type(x, 0, "2");
            for (int language = E; language <= R; language++) {
                int by = language;
                Checks.state("a 17th one", () -> x.cell(0, by));
                Checks.state("a 17th one of nothing", () -> x.cell(1, by));
            }
            Checks.argument("a wrong hand is told ahead of that", () -> x.cell(2, E));
            Checks.argument("a wrong language is told ahead of that", () -> x.cell(0, 3));
            Checks.due("what is typed is there", x.fault(0, E), NONE);
            Checks.due("the last one", x.state(15) >= 0 ? 1 : 0, 1);
            Checks.index("no 17th one", () -> x.state(16));
            int numbers = first == E ? 0 : 3 - first;
            Checks.due("it can be edited", x.edit(0, numbers, 0), 1);
        }
    }

    /** "Throws IllegalStateException if it was edited another number of times". */
    private static void versions() {
        NotebookWeir x = Checks.notebook("1", "1");
        for (int version = 0; version < 20; version++) {
            Checks.type(x, 0, version + "");
            for (int other : new int[] {version - 1, version + 1, FAR[0], FAR[2], -version - 1}) {
                Checks.state("version " + other + " of " + version, () -> x.edit(0, 0, other));
            }
            Checks.due("edit", x.edit(0, 0, version), version + 1);
            Checks.due("no text is no edit", Checks.edit(x, 0, version + 1, "="), NONE);
            x.run(0);
            Checks.due("result", x.result(0, NONE), version);
        }
        Checks.due("another cell has its own", Checks.edit(x, 1, 0, "2"), 1);
    }

    /** Two hands that edit: one that does not know of the other's edit is refused, and keeps what it has typed. */
    private static void twoHands() {
        NotebookWeir x = Checks.notebook("1");
        Checks.type(x, 0, "2");
        Checks.type(x, 1, "3");
        Checks.due("the first hand", x.edit(0, 0, 0), 1);
        Checks.state("the second hand", () -> x.edit(1, 0, 0));
        x.run(0);
        Checks.due("the first hand's", x.result(0, NONE), 2);
        Checks.due("it goes on", x.type(1, '3'), 2);
        Checks.due("as it knows then", x.edit(1, 0, 1), 2);
        x.run(0);
        Checks.due("the second hand's", x.result(0, NONE), 33);
    }

    /** "NONE if that is no text of its language". */
    private static void textsOfItsLanguage() {
        String[] texts = {"1", "a=b<1s", "a:b"};
        NotebookWeir x = new NotebookWeir();
        for (int language = E; language <= R; language++) {
            Checks.type(x, 0, texts[language]);
            Checks.due("cell", x.cell(0, language), language);
        }
        for (int language = E; language <= R; language++) {
            for (int other = E; other <= R; other++) {
                int version = other > language ? 1 : 0;
                Checks.due(texts[other] + " in " + language, Checks.edit(x, language, version, texts[other]),
                        language == other ? 1 : NONE);
            }
        }
        for (int language : new int[] {E, R}) {
            Checks.due("a is a text of both", Checks.edit(x, language, 1, "a"), 2);
        }
    }

    /** "hand: 0 or 1", "EXPRESSIONS, QUERIES or RULES": each of them is taken by each call. */
    private static void eachHandAndLanguage() {
        String[] texts = {"9", "a=b>1m", "a"};
        NotebookWeir x = new NotebookWeir();
        int made = 0;
        for (int hand = 0; hand < 2; hand++) {
            for (int language = E; language <= R; language++) {
                Checks.type(x, hand, texts[language]);
                Checks.due("fault", x.fault(hand, language), NONE);
                Checks.due("cell", x.cell(hand, language), made);
                Checks.type(x, 1 - hand, texts[language]);
                Checks.due("edit", x.edit(1 - hand, made, 0), 1);
                made++;
            }
        }
    }

    /** "An object is used for at most 512 calls after it has been made": the last one answers as the first one. */
    private static void callsToTheLastOne() {
        NotebookWeir x = new NotebookWeir();
        for (int tick = 1; tick <= 512; tick++) {
            Checks.due("a tick", x.tick(), tick);
        }
        NotebookWeir y = new NotebookWeir();
        y.mode(NotebookWeir.AT_ONCE);
        y.widget('w', 0, 1000);
        int calls = 2;
        for (int c = 0; c < 16; c++) {
            String text = "w*0+?";
            Checks.due("cell", Checks.expressions(y, text), c);
            calls += text.length() + 1;
        }
        int ticks = 0;
        while (calls + 2 < 511) {
            ticks++;
            y.turn(0, ticks);
            y.tick();
            calls += 2;
        }
        Checks.due("each tick runs all 16", y.runs(), 16 * (ticks + 1));
        Checks.due("the last chance", y.result(15, NONE), Checks.chance(16 * (ticks + 1)));
    }
}
