/** The example of README.md: three cells, a widget, a kernel that is killed, and a mode that runs at once. */
public final class Example {
    public static void main(String[] args) {
        NotebookWeir notebook = new NotebookWeir();
        int prices = write(notebook, NotebookWeir.EXPRESSIONS, "p=[3,w,8];c=?;#p");
        int sum = write(notebook, NotebookWeir.QUERIES, "s=p>4s");
        int rules = write(notebook, NotebookWeir.RULES, "d:s;b:d,w");
        int widget = notebook.widget('w', 0, 10);

        System.out.println("what the rules need: " + notebook.needs(rules));
        System.out.println("run the rules, and first what they need: " + notebook.run(rules));
        System.out.println("how many heads hold: " + notebook.result(rules, NotebookWeir.NONE));
        System.out.println("how many prices: " + notebook.result(prices, NotebookWeir.NONE));
        System.out.println("the last price: " + notebook.value('p', 2));
        System.out.println("their sum above 4: " + notebook.value('s', NotebookWeir.NONE));

        notebook.turn(widget, 6);
        System.out.println("the time after a tick: " + notebook.tick());
        System.out.println("the widget shows: " + notebook.shows(widget));
        System.out.println("the sum is STALE: " + (notebook.state(sum) == NotebookWeir.STALE));
        notebook.mode(NotebookWeir.AT_ONCE);
        System.out.println("the sum, run at once: " + notebook.value('s', NotebookWeir.NONE));

        int chance = notebook.value('c', NotebookWeir.NONE);
        System.out.println("kept by a checkpoint: " + notebook.checkpoint());
        System.out.println("FRESH when killed: " + notebook.kill());
        System.out.println("run to restore: " + notebook.restore());
        System.out.println("chance is as recorded: " + (notebook.value('c', NotebookWeir.NONE) == chance));

        System.out.println("a fault: " + faultOf(notebook, NotebookWeir.EXPRESSIONS, "a=[1,2"));
        int failing = write(notebook, NotebookWeir.EXPRESSIONS, "1;p.9");
        System.out.println("an item that is not there, in the statement at 2: " + notebook.error(failing));
    }

    private static int write(NotebookWeir notebook, int language, String text) {
        for (int i = 0; i < text.length(); i++) {
            notebook.type(0, text.charAt(i));
        }
        return notebook.cell(0, language);
    }

    private static int faultOf(NotebookWeir notebook, int language, String text) {
        for (int i = 0; i < text.length(); i++) {
            notebook.type(1, text.charAt(i));
        }
        return notebook.fault(1, language);
    }
}
