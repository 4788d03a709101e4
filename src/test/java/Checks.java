/** What the tests share: calls in short, answers that are compared, and an end with an exit code. */
final class Checks {
    private static final String[] LANGUAGES = {"EXPRESSIONS", "QUERIES", "RULES"};
    private static int checked = 0;
    private static int wrong = 0;

    private Checks() {
    }

    /** A call that may throw. */
    interface Call {
        long answer();
    }

    static void due(String what, long got, long want) {
        checked++;
        if (got != want) {
            wrong++;
            System.out.println(what + " answered " + got + ", due is " + want);
        }
    }

    /** Exactly this class is due: what the Java machine throws is often a class below it. */
    static void thrown(String what, Class<? extends Exception> want, Call call) {
        checked++;
        String got;
        try {
            got = "answered " + call.answer();
        } catch (RuntimeException e) {
            if (e.getClass() == want) {
                return;
            }
            got = "threw " + e;
        }
        wrong++;
        System.out.println(what + " " + got + ", due is " + want.getName());
    }

    static void argument(String what, Call call) {
        thrown(what, IllegalArgumentException.class, call);
    }

    static void state(String what, Call call) {
        thrown(what, IllegalStateException.class, call);
    }

    static void index(String what, Call call) {
        thrown(what, IndexOutOfBoundsException.class, call);
    }

    static void type(NotebookWeir x, int hand, String text) {
        for (int i = 0; i < text.length(); i++) {
            x.type(hand, text.charAt(i));
        }
    }

    /** Makes a cell of EXPRESSIONS; returns its number. */
    static int expressions(NotebookWeir x, String text) {
        type(x, 0, text);
        return x.cell(0, NotebookWeir.EXPRESSIONS);
    }

    static int query(NotebookWeir x, String text) {
        type(x, 0, text);
        return x.cell(0, NotebookWeir.QUERIES);
    }

    static int rules(NotebookWeir x, String text) {
        type(x, 0, text);
        return x.cell(0, NotebookWeir.RULES);
    }

    /** Makes a notebook by hand of cells of EXPRESSIONS. */
    static NotebookWeir notebook(String... texts) {
        NotebookWeir x = new NotebookWeir();
        for (String text : texts) {
            expressions(x, text);
        }
        return x;
    }

    static int edit(NotebookWeir x, int cell, int version, String text) {
        type(x, 1, text);
        return x.edit(1, cell, version);
    }

    static void fault(String text, int language, int want) {
        NotebookWeir x = new NotebookWeir();
        type(x, 0, text);
        due("fault of " + LANGUAGES[language] + " \"" + text + "\"", x.fault(0, language), want);
    }

    /** The number that is drawn as the nth chance of a notebook: 149 as the first one. */
    static int chance(int nth) {
        long chance = 1;
        for (int i = 0; i < nth; i++) {
            chance = (75 * chance + 74) % 65537;
        }
        return (int) chance;
    }

    static void run(NotebookWeir x, int... cells) {
        for (int cell : cells) {
            x.run(cell);
        }
    }

    /** Turns a widget, and lets a tick come. */
    static void show(NotebookWeir x, int widget, int number) {
        x.turn(widget, number);
        x.tick();
    }

    static void counts(String what, NotebookWeir x, int runs, int found) {
        due(what + ": runs", x.runs(), runs);
        due(what + ": found", x.found(), found);
    }

    static void needs(String what, NotebookWeir x, int... want) {
        for (int c = 0; c < want.length; c++) {
            due(what + ": needs(" + c + ")", x.needs(c), want[c]);
        }
    }

    static void rings(String what, NotebookWeir x, int... want) {
        for (int c = 0; c < want.length; c++) {
            due(what + ": ring(" + c + ")", x.ring(c), want[c]);
        }
    }

    static void shows(String what, NotebookWeir x, int... want) {
        for (int w = 0; w < want.length; w++) {
            due(what + ": shows(" + w + ")", x.shows(w), want[w]);
        }
    }

    static void order(String what, NotebookWeir x, int... want) {
        for (int place = 0; place < want.length; place++) {
            due(what + ": order(" + place + ")", x.order(place), want[place]);
        }
        due(what + ": order behind the last one", x.order(want.length), NotebookWeir.NONE);
    }

    static void states(String what, NotebookWeir x, int... want) {
        for (int c = 0; c < want.length; c++) {
            due(what + ": state(" + c + ")", x.state(c), want[c]);
        }
    }

    /** Compares the number that EXPRESSIONS give, as they are run, and anew. */
    static void gives(String text, int want) {
        NotebookWeir x = notebook(text);
        due(text + " runs", x.run(0), 0);
        due(text, x.result(0, NotebookWeir.NONE), want);
        due(text + " anew", x.resultAnew(0, NotebookWeir.NONE), want);
        state(text + " has no item 0", () -> x.result(0, 0));
        state(text + " has no item -2", () -> x.result(0, -2));
    }

    /** Compares the error that EXPRESSIONS end with. */
    static void fails(String text, int error, int place) {
        NotebookWeir x = notebook(text);
        due(text + " runs", x.run(0), 0);
        due("error of " + text, x.error(0), 100 * error + place);
        due("state of " + text, x.state(0), NotebookWeir.FAILED);
        state("result of " + text, () -> x.result(0, NotebookWeir.NONE));
        state("result anew of " + text, () -> x.resultAnew(0, NotebookWeir.NONE));
    }

    static void end(String test) {
        System.out.println(test + ": " + checked + " checked, " + wrong + " wrong");
        if (wrong != 0 || checked == 0) {
            System.exit(1);
        }
    }
}
