import java.util.List;

/**
 * Each call with arguments from all over their types, in notebooks that are empty, in use and full: it answers, or throws
 * exactly one of the exceptions that the document names for it, and no question of an empty answer is left open.
 */
public final class ExtremesTest {
    private static final int CALLS = 300;
    private static final int[] NUMBERS = {Integer.MIN_VALUE, Integer.MIN_VALUE + 1, -65536, -1001, -1000, -17, -2, -1, 0, 1,
        2, 3, 4, 7, 8, 15, 16, 17, 31, 32, 1000, 1001, 65536, Integer.MAX_VALUE - 1, Integer.MAX_VALUE};
    private static final char[] SIGNS = {0, 1, '#', '0', ':', '@', 'A', '`', 'a', 'z', '{', 127, 255, 256, 32768, 65535};

    private static final Class<?> ARGUMENT = IllegalArgumentException.class;
    private static final Class<?> STATE = IllegalStateException.class;
    private static final Class<?> INDEX = IndexOutOfBoundsException.class;

    private static int made;
    private static NotebookWeir x;
    private static int calls;

    public static void main(String[] args) {
        for (made = 0; made < 4; made++) {
            calls = CALLS;
            ofOne();
            ofTwo();
            ofThree();
            ofSigns();
        }
        Checks.end("ExtremesTest");
    }

    /** An empty notebook, one in use, one that is full, and a full one that runs at once. */
    private static NotebookWeir notebook() {
        NotebookWeir x = new NotebookWeir();
        String[] texts = {"a=[1,2];a", "b=a.0+w;b", "c=[1].1", "d=e", "e=d", "f=?+@;f", "b!w", "a!1"};
        for (int c = 0; made > 0 && c < (made == 1 ? 5 : 16); c++) {
            Checks.expressions(x, texts[c % 8]);
        }
        for (int w = 0; made > 0 && w < (made == 1 ? 1 : 4); w++) {
            x.widget((char) ('w' + w), -1000, 1000);
        }
        if (made > 1) {
            Checks.type(x, 0, "1;".repeat(20));
            Checks.type(x, 1, "[[[1");
            x.bind(0, 1);
            x.bind(1, 3);
        }
        x.mode(made - 1 < 0 ? 0 : made - 1);
        return x;
    }

    private static void call(String what, List<Class<?>> allowed, Checks.Call call) {
        if (calls++ >= CALLS) {
            x = notebook();
            calls = 0;
        }
        Class<?> thrown = null;
        try {
            call.answer();
        } catch (RuntimeException e) {
            thrown = e.getClass();
        }
        Checks.due(what + " in " + made + " throws " + thrown, thrown == null || allowed.contains(thrown) ? 1 : 0, 1);
    }

    private static void ofOne() {
        for (int n : NUMBERS) {
            call("mode " + n, List.of(ARGUMENT), () -> x.mode(n));
            call("shows " + n, List.of(INDEX), () -> x.shows(n));
            call("run " + n, List.of(INDEX, STATE), () -> x.run(n));
            call("state " + n, List.of(INDEX), () -> x.state(n));
            call("needs " + n, List.of(INDEX), () -> x.needs(n));
            call("ring " + n, List.of(INDEX), () -> x.ring(n));
            call("error " + n, List.of(INDEX), () -> x.error(n));
            call("order " + n, List.of(INDEX), () -> x.order(n));
            call("tick", List.of(), () -> x.tick());
            call("checkpoint", List.of(), () -> x.checkpoint());
            call("kill and restore", List.of(), () -> x.kill() + x.restore());
            call("restore", List.of(STATE), () -> x.restore());
            call("runs", List.of(), () -> x.runs());
            call("found", List.of(), () -> x.found());
        }
    }

    private static void ofTwo() {
        for (int n : NUMBERS) {
            for (int m : NUMBERS) {
                call("fault " + n + " " + m, List.of(ARGUMENT), () -> x.fault(n, m));
                call("bind " + n + " " + m, List.of(INDEX, ARGUMENT), () -> x.bind(n, m) ? 1 : 0);
                call("turn " + n + " " + m, List.of(INDEX, ARGUMENT), () -> x.turn(n, m));
                call("result " + n + " " + m, List.of(INDEX, STATE), () -> x.result(n, m));
                call("resultAnew " + n + " " + m, List.of(INDEX, STATE), () -> x.resultAnew(n, m));
                call("cell " + n + " " + m, List.of(ARGUMENT, STATE), () -> x.cell(n, m));
                call("tick", List.of(), () -> x.tick());
            }
        }
    }

    private static void ofThree() {
        for (int n : NUMBERS) {
            for (int m : NUMBERS) {
                for (int k : NUMBERS) {
                    call("edit " + n + " " + m + " " + k, List.of(INDEX, ARGUMENT, STATE), () -> x.edit(n, m, k));
                }
            }
        }
    }

    private static void ofSigns() {
        for (char sign : SIGNS) {
            for (int n : NUMBERS) {
                call("type " + n + " " + (int) sign, List.of(ARGUMENT, STATE), () -> x.type(n, sign));
                call("value " + (int) sign + " " + n, List.of(ARGUMENT, STATE), () -> x.value(sign, n));
                for (int m : NUMBERS) {
                    call("widget " + (int) sign + " " + n + " " + m, List.of(ARGUMENT, STATE), () -> x.widget(sign, n, m));
                }
            }
        }
    }
}
