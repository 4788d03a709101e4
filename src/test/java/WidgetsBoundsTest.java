/** The bounds that "Widgets" names, and those of the promises 7 to 11. */
public final class WidgetsBoundsTest {
    private static final int NONE = NotebookWeir.NONE;
    private static final int WIDGETS = 4;
    private static final int LEAST = -1000;
    private static final int MOST = 1000;
    private static final int[] FAR = {Integer.MIN_VALUE, -1, Integer.MAX_VALUE};

    public static void main(String[] args) {
        names();
        ranges();
        atMostFour();
        noSuchWidget();
        numbersThatAreTurnedTo();
        theLastTurnCounts();
        fromTheNextTickOn();
        boundAndNotAnyMore();
        held();
        unlessItDidAlready();
        allBindingsOfFour();
        usedByCells();
        Checks.end("WidgetsBoundsTest");
    }

    private static NotebookWeir four(int least, int most) {
        NotebookWeir x = new NotebookWeir();
        for (int w = 0; w < WIDGETS; w++) {
            x.widget((char) ('a' + w), least, most);
        }
        return x;
    }

    private static int bind(NotebookWeir x, int widget, int other) {
        return x.bind(widget, other) ? 1 : 0;
    }

    /** "name a to z". */
    private static void names() {
        for (char name = 'a'; name <= 'z'; name++) {
            NotebookWeir x = new NotebookWeir();
            Checks.due("widget " + name, x.widget(name, 3, 4), 0);
            Checks.due("value of " + name, x.value(name, NONE), 3);
        }
        NotebookWeir x = new NotebookWeir();
        for (char name : new char[] {0, '`', '{', 'A', 'Z', '0', (char) 255, (char) ('a' + 256), (char) 65535}) {
            Checks.argument("widget " + (int) name, () -> x.widget(name, 0, 1));
        }
        Checks.due("none of these is one", x.widget('a', 0, 1), 0);
    }

    /** "least: -1000 to 1000", "most: least to 1000". */
    private static void ranges() {
        int[][] taken = {{LEAST, LEAST}, {LEAST, MOST}, {MOST, MOST}, {LEAST, LEAST + 1}, {MOST - 1, MOST}, {0, 0}, {-1, 1}};
        int[][] others = {{LEAST - 1, 0}, {LEAST - 1, LEAST - 1}, {MOST + 1, MOST + 1}, {MOST + 1, MOST}, {0, MOST + 1},
            {LEAST, MOST + 1}, {1, 0}, {MOST, MOST - 1}, {LEAST, LEAST - 1}, {Integer.MIN_VALUE, Integer.MAX_VALUE},
            {0, Integer.MAX_VALUE}, {Integer.MIN_VALUE, 0}, {0, Integer.MIN_VALUE}, {Integer.MAX_VALUE, 0}};
        for (int[] range : taken) {
            NotebookWeir x = new NotebookWeir();
            String what = "widget " + range[0] + " to " + range[1];
            Checks.due(what, x.widget('a', range[0], range[1]), 0);
            Checks.due(what + " shows the least at first", x.shows(0), range[0]);
            Checks.due(what + " is turned to its greatest", x.turn(0, range[1]), range[0]);
            Checks.argument(what + " is turned above it", () -> x.turn(0, range[1] + 1));
            Checks.argument(what + " is turned below its least", () -> x.turn(0, range[0] - 1));
            x.tick();
            Checks.due(what + " shows the greatest", x.shows(0), range[1]);
        }
        NotebookWeir x = new NotebookWeir();
        for (int[] range : others) {
            Checks.argument("widget " + range[0] + " to " + range[1], () -> x.widget('a', range[0], range[1]));
        }
        Checks.due("none of these is one", x.widget('a', 0, 1), 0);
    }

    /** "at most 4"; "if there are 4, or one has this name". */
    private static void atMostFour() {
        NotebookWeir x = new NotebookWeir();
        for (int w = 0; w < WIDGETS; w++) {
            Checks.due("widget", x.widget((char) ('z' - w), w, 9), w);
            for (int other = 0; other <= w; other++) {
                char name = (char) ('z' - other);
                Checks.state("the name of widget " + other, () -> x.widget(name, 0, 1));
            }
            Checks.argument("a wrong range is told ahead of that", () -> x.widget('z', 1, 0));
        }
        Checks.state("a fifth one", () -> x.widget('a', 0, 1));
        Checks.argument("a wrong name is told ahead of that", () -> x.widget('`', 0, 1));
        Checks.argument("a wrong least is told ahead of that", () -> x.widget('a', LEAST - 1, 0));
        Checks.argument("a wrong most is told ahead of that", () -> x.widget('a', 0, MOST + 1));
        Checks.shows("all four", x, 0, 1, 2, 3);
        Checks.index("shows(4)", () -> x.shows(WIDGETS));
    }

    /** "if there is no such widget, of either", ahead of what else is wrong. */
    private static void noSuchWidget() {
        NotebookWeir x = new NotebookWeir();
        for (int count = 0; count <= WIDGETS; count++) {
            for (int none : new int[] {count, count + 1, FAR[0], FAR[1], FAR[2]}) {
                String what = none + " of " + count;
                Checks.index("shows " + what, () -> x.shows(none));
                Checks.index("turn " + what, () -> x.turn(none, 0));
                Checks.index("turn to a wrong number " + what, () -> x.turn(none, MOST + 1));
                Checks.index("bind to itself " + what, () -> bind(x, none, none));
                Checks.index("bind the first one to " + what, () -> bind(x, 0, none));
                Checks.index("bind to the first one " + what, () -> bind(x, none, 0));
            }
            if (count < WIDGETS) {
                int last = x.widget((char) ('a' + count), 0, 1);
                Checks.due("shows the last one", x.shows(last), 0);
                Checks.argument("bind the last one to itself", () -> bind(x, last, last));
            }
        }
        Checks.due("the first one and the last one", bind(x, 0, 3), 1);
    }

    /** "number: from its least to its greatest"; "Returns what it shows, until the next tick." */
    private static void numbersThatAreTurnedTo() {
        NotebookWeir x = new NotebookWeir();
        x.widget('a', -3, 4);
        for (int none : new int[] {-4, 5, MOST + 1, LEAST - 1, Integer.MIN_VALUE, Integer.MAX_VALUE}) {
            Checks.argument("turn to " + none, () -> x.turn(0, none));
            x.tick();
            Checks.due("it shows", x.shows(0), -3);
        }
        int before = -3;
        for (int number = -3; number <= 4; number++) {
            Checks.due("turn to " + number, x.turn(0, number), before);
            Checks.due("until the tick", x.shows(0), before);
            x.tick();
            Checks.due("after it", x.shows(0), number);
            before = number;
        }
    }

    /** "of several the last one", also one that it shows already; a refused one is none. */
    private static void theLastTurnCounts() {
        NotebookWeir x = four(0, 9);
        x.turn(1, 5);
        x.turn(1, 7);
        x.turn(1, 6);
        Checks.argument("a refused one", () -> x.turn(1, 10));
        x.turn(2, 3);
        x.turn(2, 0);
        x.tick();
        Checks.shows("the last ones", x, 0, 6, 0, 0);
        x.turn(1, 9);
        x.turn(1, 6);
        x.tick();
        Checks.shows("what it shows already", x, 0, 6, 0, 0);
    }

    /** "It is turned to a number, which counts from the next tick on", for that one; "a tick, which is time 1 later". */
    private static void fromTheNextTickOn() {
        NotebookWeir x = four(0, 9);
        Checks.due("the first tick", x.tick(), 1);
        x.turn(0, 5);
        x.turn(3, 6);
        Checks.shows("ahead of the tick", x, 0, 0, 0, 0);
        Checks.due("a value ahead of the tick", x.value('a', NONE), 0);
        Checks.due("the second tick", x.tick(), 2);
        Checks.shows("after it", x, 5, 0, 0, 6);
        Checks.due("a value after it", x.value('a', NONE), 5);
        x.bind(0, 1);
        Checks.due("the third tick", x.tick(), 3);
        Checks.shows("nothing was turned", x, 5, 0, 0, 6);
        x.turn(1, 2);
        x.kill();
        x.tick();
        Checks.shows("killing changes nothing of it", x, 2, 2, 0, 6);
    }

    /** "Binds two widgets, both ways, or not any more. Returns whether they are bound then." */
    private static void boundAndNotAnyMore() {
        for (int pair = 0; pair < 16; pair++) {
            int one = pair / 4;
            int two = pair % 4;
            if (one != two) {
                NotebookWeir x = four(0, 9);
                boolean[] isFirst = {true, false, false, true, true, false};
                int bound = 0;
                for (boolean is : isFirst) {
                    bound = 1 - bound;
                    Checks.due("bind " + one + " and " + two, is ? bind(x, one, two) : bind(x, two, one), bound);
                    int number = x.shows(one) + 1;
                    int before = x.shows(two);
                    Checks.show(x, one, number);
                    Checks.due("shows the other one", x.shows(two), bound == 1 ? number : before);
                    Checks.show(x, two, before);
                    Checks.due("shows the first one", x.shows(one), bound == 1 ? before : number);
                }
                for (int other = 0; other < WIDGETS; other++) {
                    Checks.due("others", other == one || other == two ? 0 : x.shows(other), 0);
                }
            }
        }
    }

    /** "held within its own least and greatest", and "not what those between show". */
    private static void held() {
        NotebookWeir x = new NotebookWeir();
        x.widget('a', LEAST, MOST);
        x.widget('b', -5, 5);
        x.widget('c', 7, 7);
        x.widget('d', -800, 800);
        x.bind(0, 1);
        x.bind(1, 2);
        x.bind(2, 3);
        int[][] shown = {{MOST, 5, 7, 800}, {801, 5, 7, 800}, {800, 5, 7, 800}, {799, 5, 7, 799}, {8, 5, 7, 8}, {7, 5, 7, 7},
            {6, 5, 7, 6}, {5, 5, 7, 5}, {4, 4, 7, 4}, {-5, -5, 7, -5}, {-6, -5, 7, -6}, {-801, -5, 7, -800},
            {LEAST, -5, 7, -800}};
        for (int[] want : shown) {
            Checks.show(x, 0, want[0]);
            Checks.shows("turned to " + want[0], x, want);
        }
        Checks.show(x, 2, 7);
        Checks.shows("turned to the one number that it has", x, 7, 5, 7, 7);
        Checks.show(x, 1, 5);
        Checks.shows("from one between", x, 5, 5, 7, 5);
    }

    /** "unless it did already": one that is held to what it shows, or turned to that, shows it anew, too. */
    private static void unlessItDidAlready() {
        NotebookWeir x = four(0, 9);
        x.bind(0, 1);
        x.bind(1, 2);
        x.turn(0, 0);
        x.turn(2, 5);
        x.tick();
        Checks.shows("turned to what it shows", x, 0, 0, 5, 0);
        x.turn(1, 0);
        x.turn(0, 3);
        x.tick();
        Checks.shows("one between that is turned to what it shows", x, 3, 0, 0, 0);
        NotebookWeir y = new NotebookWeir();
        y.widget('a', 0, 9);
        y.widget('b', 0, 0);
        y.widget('c', 0, 9);
        y.widget('d', 0, 9);
        y.bind(0, 1);
        y.bind(2, 1);
        y.bind(1, 3);
        y.turn(0, 6);
        y.turn(2, 7);
        y.tick();
        Checks.shows("one between that is held to what it shows", y, 6, 0, 7, 6);
    }

    /** All bindings of four widgets, with all of them that may be turned, compared with the sentence. */
    private static void allBindingsOfFour() {
        for (int bindings = 0; bindings < 64; bindings++) {
            for (int turned = 0; turned < 16; turned++) {
                NotebookWeir x = new NotebookWeir();
                int[] least = {0, 12, 0, 5};
                int[] most = {99, 31, 99, 50};
                for (int w = 0; w < WIDGETS; w++) {
                    x.widget((char) ('a' + w), least[w], most[w]);
                }
                boolean[][] bound = new boolean[WIDGETS][WIDGETS];
                int bit = 0;
                for (int one = 0; one < WIDGETS; one++) {
                    for (int two = one + 1; two < WIDGETS; two++) {
                        if ((bindings >> bit++ & 1) != 0) {
                            bound[one][two] = x.bind(two, one);
                            bound[two][one] = true;
                        }
                    }
                }
                for (int w = WIDGETS - 1; w >= 0; w--) {
                    if ((turned >> w & 1) != 0) {
                        x.turn(w, 10 * w + 15);
                    }
                }
                x.tick();
                Checks.shows("bindings " + bindings + ", turned " + turned, x, shown(least, most, bound, turned));
            }
        }
    }

    private static int[] shown(int[] least, int[] most, boolean[][] bound, int turned) {
        int[] shown = least.clone();
        int anew = turned;
        for (int w = 0; w < WIDGETS; w++) {
            shown[w] = (turned >> w & 1) != 0 ? 10 * w + 15 : shown[w];
        }
        for (int w = 0; w < WIDGETS; w++) {
            if ((turned >> w & 1) != 0) {
                int before = anew;
                for (int other = 0; other < WIDGETS; other++) {
                    if ((before >> other & 1) == 0 && isBoundOver(w, other, bound, before)) {
                        shown[other] = Math.max(least[other], Math.min(most[other], 10 * w + 15));
                        anew |= 1 << other;
                    }
                }
            }
        }
        return shown;
    }

    /** "directly or over others that did not show anything anew at this tick yet". */
    private static boolean isBoundOver(int from, int to, boolean[][] bound, int closed) {
        if (bound[from][to]) {
            return true;
        }
        for (int over = 0; over < WIDGETS; over++) {
            if (bound[from][over] && (closed >> over & 1) == 0 && isBoundOver(over, to, bound, closed | 1 << over)) {
                return true;
            }
        }
        return false;
    }

    /** "A widget defines its name": a number, for each language. */
    private static void usedByCells() {
        NotebookWeir x = Checks.notebook("w+1", "#w", "w.0", "[w,w].1", "w!2");
        Checks.query(x, "q=w=-7c");
        Checks.rules(x, "r:w");
        Checks.expressions(x, "w");
        x.widget('w', -7, 0);
        Checks.run(x, 0, 1, 2, 3, 4, 5, 6, 7);
        Checks.due("what it shows, as changed", x.value('w', NONE), -5);
        Checks.due("also for others", x.result(7, NONE), -5);
        Checks.edit(x, 4, 0, "1");
        Checks.run(x, 0, 1, 2, 3, 4, 5, 6, 7);
        Checks.due("w+1", x.result(0, NONE), -6);
        Checks.due("#w", x.error(1), 100 * NotebookWeir.KIND);
        Checks.due("w.0", x.error(2), 100 * NotebookWeir.KIND);
        Checks.due("[w,w].1", x.result(3, NONE), -7);
        Checks.due("a query", x.value('q', NONE), 1);
        Checks.due("rules", x.value('r', NONE), 1);
        Checks.show(x, 0, 0);
        Checks.run(x, 5, 6);
        Checks.due("a query", x.value('q', NONE), 0);
        Checks.due("rules", x.value('r', NONE), 0);
        for (int item : new int[] {-2, 0, 1, Integer.MIN_VALUE, Integer.MAX_VALUE}) {
            Checks.state("it has no items", () -> x.value('w', item));
        }
    }
}
