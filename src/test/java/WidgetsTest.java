/** Promises 7 to 11: widget, bind, turn, tick, shows. */
public final class WidgetsTest {
    private static final int NONE = NotebookWeir.NONE;

    public static void main(String[] args) {
        widget();
        turnAndTick();
        bind();
        spreading();
        paths();
        values();
        Checks.end("WidgetsTest");
    }

    private static void widget() {
        NotebookWeir x = new NotebookWeir();
        Checks.argument("a name below a", () -> x.widget('`', 0, 1));
        Checks.argument("a name above z", () -> x.widget('{', 0, 1));
        Checks.argument("a name far away", () -> x.widget((char) 65535, 0, 1));
        Checks.argument("least below -1000", () -> x.widget('a', -1001, 1));
        Checks.argument("least above 1000", () -> x.widget('a', 1001, 1001));
        Checks.argument("most above 1000", () -> x.widget('a', 0, 1001));
        Checks.argument("most below least", () -> x.widget('a', 3, 2));
        Checks.due("the first widget", x.widget('a', -1000, 1000), 0);
        Checks.state("a name again", () -> x.widget('a', 0, 1));
        Checks.argument("a wrong range is told ahead of that", () -> x.widget('a', 1, 0));
        Checks.due("the second widget", x.widget('z', 1000, 1000), 1);
        Checks.due("the third widget", x.widget('b', 4, 5), 2);
        Checks.due("the fourth widget", x.widget('c', -3, -3), 3);
        Checks.state("a fifth widget", () -> x.widget('d', 0, 1));
        Checks.argument("a wrong name is told ahead of that", () -> x.widget('A', 0, 1));
        Checks.shows("the least at first", x, -1000, 1000, 4, -3);
        Checks.index("shows(4)", () -> x.shows(4));
        Checks.index("shows(-1)", () -> x.shows(-1));
    }

    private static void turnAndTick() {
        NotebookWeir x = new NotebookWeir();
        x.widget('a', 2, 9);
        Checks.index("turn no widget", () -> x.turn(1, 5));
        Checks.index("turn widget -1", () -> x.turn(-1, 5));
        Checks.argument("turn below its least", () -> x.turn(0, 1));
        Checks.argument("turn above its greatest", () -> x.turn(0, 10));
        Checks.due("a tick without a turn", x.tick(), 1);
        Checks.shows("a tick without a turn", x, 2);
        Checks.due("turn", x.turn(0, 9), 2);
        Checks.due("turn again", x.turn(0, 7), 2);
        Checks.shows("ahead of the tick", x, 2);
        Checks.due("the tick", x.tick(), 2);
        Checks.shows("the last turn counts", x, 7);
        Checks.due("turn after that", x.turn(0, 2), 7);
        Checks.due("turn to what it shows", x.turn(0, 7), 7);
        Checks.due("the tick", x.tick(), 3);
        Checks.shows("as it was", x, 7);
        x.tick();
        Checks.shows("a turn counts for one tick", x, 7);
    }

    private static void bind() {
        NotebookWeir x = new NotebookWeir();
        x.widget('a', 0, 9);
        x.widget('b', 0, 9);
        Checks.index("bind to no widget", () -> x.bind(0, 2) ? 1 : 0);
        Checks.index("bind no widget", () -> x.bind(2, 0) ? 1 : 0);
        Checks.index("bind widget -1", () -> x.bind(-1, 0) ? 1 : 0);
        Checks.index("bind no widget to itself", () -> x.bind(2, 2) ? 1 : 0);
        Checks.argument("bind to itself", () -> x.bind(1, 1) ? 1 : 0);
        Checks.due("bind", x.bind(0, 1) ? 1 : 0, 1);
        x.turn(1, 5);
        x.tick();
        Checks.shows("bound both ways, the second turned", x, 5, 5);
        x.turn(0, 6);
        x.tick();
        Checks.shows("bound both ways, the first turned", x, 6, 6);
        Checks.due("not any more, told the other way", x.bind(1, 0) ? 1 : 0, 0);
        x.turn(0, 3);
        x.tick();
        Checks.shows("not bound any more", x, 3, 6);
        Checks.due("bound again", x.bind(1, 0) ? 1 : 0, 1);
        Checks.shows("to bind shows nothing anew", x, 3, 6);
        x.tick();
        Checks.shows("nor does a tick", x, 3, 6);
        x.turn(0, 3);
        x.tick();
        Checks.shows("but to turn, also to the same", x, 3, 3);
    }

    private static void spreading() {
        NotebookWeir x = new NotebookWeir();
        x.widget('a', 0, 100);
        x.widget('b', 0, 5);
        x.widget('c', 50, 100);
        x.widget('d', -9, 60);
        x.bind(0, 1);
        x.bind(1, 2);
        x.bind(2, 3);
        x.turn(0, 80);
        x.tick();
        Checks.shows("the number of the turned one, held", x, 80, 5, 80, 60);
        x.turn(3, -7);
        x.tick();
        Checks.shows("from the other end", x, 0, 0, 50, -7);
        x.turn(3, 9);
        x.turn(0, 70);
        x.tick();
        Checks.shows("the lowest turned one comes first", x, 70, 5, 70, 9);
        x.turn(1, 4);
        x.turn(3, 60);
        x.tick();
        Checks.shows("what is turned lies between", x, 4, 4, 50, 60);
    }

    private static void paths() {
        NotebookWeir x = new NotebookWeir();
        x.widget('a', 0, 100);
        x.widget('b', 0, 100);
        x.widget('c', 0, 100);
        x.widget('d', 0, 100);
        x.bind(0, 3);
        x.bind(3, 1);
        x.bind(1, 2);
        x.turn(1, 11);
        x.turn(2, 22);
        x.tick();
        Checks.shows("directly and over others", x, 11, 11, 22, 11);
        x.bind(0, 1);
        x.turn(0, 7);
        x.tick();
        Checks.shows("in a ring of widgets", x, 7, 7, 7, 7);
        x.turn(3, 30);
        x.turn(1, 10);
        x.tick();
        Checks.shows("1 ahead of 3", x, 10, 10, 10, 30);
    }

    private static void values() {
        NotebookWeir x = new NotebookWeir();
        x.widget('w', 3, 9);
        Checks.due("the value of a widget", x.value('w', NONE), 3);
        Checks.state("which has no items", () -> x.value('w', 0));
        Checks.state("nor others", () -> x.value('w', -2));
        x.turn(0, 8);
        Checks.due("until the tick", x.value('w', NONE), 3);
        x.tick();
        Checks.due("after it", x.value('w', NONE), 8);
        x.kill();
        Checks.due("killing leaves it", x.value('w', NONE), 8);
    }
}
