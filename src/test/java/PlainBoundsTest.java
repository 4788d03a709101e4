/** The bounds that "A plain program" names, and those of promise 20. */
public final class PlainBoundsTest {
    private static final int NONE = NotebookWeir.NONE;
    private static final int FRESH = NotebookWeir.FRESH;
    private static final int STALE = NotebookWeir.STALE;
    private static final int FAILED = NotebookWeir.FAILED;
    private static final int BLOCKED = NotebookWeir.BLOCKED;

    public static void main(String[] args) {
        sixteenFromNothing();
        notInThat();
        leftOut();
        notBehindAnError();
        fromNothing();
        recordedLast();
        otherTexts();
        beyond();
        recordsStay();
        changesNothing();
        inEachMode();
        items();
        Checks.end("PlainBoundsTest");
    }

    private static void anew(String what, NotebookWeir x, int... want) {
        for (int c = 0; c < want.length; c++) {
            Checks.due(what + ": resultAnew(" + c + ")", x.resultAnew(c, NONE), want[c]);
        }
    }

    private static void refused(String what, NotebookWeir x, int... cells) {
        for (int cell : cells) {
            Checks.state(what + ": resultAnew(" + cell + ")", () -> x.resultAnew(cell, NONE));
        }
    }

    private static void sixteenFromNothing() {
        NotebookWeir x = new NotebookWeir();
        for (int c = 0; c < 15; c++) {
            Checks.expressions(x, (char) ('a' + c) + "=" + (char) ('b' + c) + "+1;" + (char) ('a' + c));
        }
        Checks.expressions(x, "p=100;p");
        for (int c = 0; c < 16; c++) {
            Checks.due("of 16", x.resultAnew(c, NONE), 115 - c);
            Checks.due("order", x.order(c), 15 - c);
        }
        Checks.due("order", x.order(16), NONE);
        Checks.counts("nothing is run by that", x, 0, 0);
        Checks.edit(x, 15, 0, "p=#1;p");
        for (int c = 0; c < 16; c++) {
            refused("behind an error", x, c);
        }
    }

    /** "all cells that are not TWICE, RING or BLOCKED by one of these", in every other state. */
    private static void notInThat() {
        NotebookWeir x = Checks.notebook("a=1;1", "a=2;1", "b=c;1", "c=b;1", "d=a;1", "e=d;1", "f=c;1", "g=f;1", "h=7;h",
                "i=8;i", "j=#1", "k=2;k");
        Checks.run(x, 9, 10, 11);
        Checks.edit(x, 11, 0, "k=9;k");
        Checks.states("each", x, 5, 5, 4, 4, BLOCKED, BLOCKED, BLOCKED, BLOCKED, STALE, FRESH, FAILED, STALE);
        refused("not in that", x, 0, 1, 2, 3, 4, 5, 6, 7, 10);
        Checks.due("STALE", x.resultAnew(8, NONE), 7);
        Checks.due("FRESH", x.resultAnew(9, NONE), 8);
        Checks.due("edited", x.resultAnew(11, NONE), 9);
        Checks.order("in that", x, 8, 9, 10, 11);
    }

    /** "those behind an error left out", over as many as there are. */
    private static void leftOut() {
        NotebookWeir x = Checks.notebook("d=c;1", "c=b;1", "b=a;1", "a=[1].1;1", "e=1;1", "f=e+d;1", "g=e;1");
        refused("behind an error", x, 0, 1, 2, 3, 5);
        Checks.due("not behind it", x.resultAnew(4, NONE), 1);
        Checks.due("not behind it", x.resultAnew(6, NONE), 1);
        Checks.order("they are in the order", x, 3, 2, 1, 0, 4, 5, 6);
        Checks.edit(x, 3, 0, "a=[1].0;1");
        anew("mended", x, 1, 1, 1, 1, 1, 1, 1);
    }

    /** What FAILED, or is BLOCKED by that, as it was run, need not do so anew. */
    private static void notBehindAnError() {
        NotebookWeir x = Checks.notebook("a=b;a", "c=a;c", "b=#w", "d=1;d");
        x.widget('w', 0, 9);
        x.run(1);
        Checks.states("run", x, BLOCKED, BLOCKED, FAILED, STALE);
        Checks.edit(x, 2, 0, "b=w");
        anew("mended", x, 0, 0);
        Checks.show(x, 0, 5);
        anew("with what the widget shows", x, 5, 5);
        Checks.edit(x, 3, 0, "a!1;a");
        Checks.due("changed", x.resultAnew(1, NONE), 6);
        Checks.due("changed", x.resultAnew(3, NONE), 6);
        Checks.due("ahead of that", x.resultAnew(0, NONE), 5);
    }

    /** "run all from nothing": with no value that was there before. */
    private static void fromNothing() {
        NotebookWeir x = Checks.notebook("a=1;a", "b=a;b", "a!10");
        x.run(1);
        Checks.due("run", x.result(1, NONE), 11);
        Checks.run(x, 2, 2);
        anew("not changed again", x, 1, 11);
        Checks.edit(x, 0, 0, "c=1;c");
        Checks.due("its own", x.resultAnew(0, NONE), 1);
        refused("no value of that name", x, 1, 2);
        Checks.edit(x, 0, 1, "a=5;a");
        anew("a new one", x, 5, 15);
        Checks.states("which is run by nobody", x, STALE, STALE, STALE);
    }

    /** "with chance and time as they were recorded last"; "0 for others". */
    private static void recordedLast() {
        NotebookWeir x = Checks.notebook("?", "@", "[?,@,?]", "?+5");
        x.tick();
        anew("never run", x, 0, 0, 3, 5);
        Checks.due("never run", x.resultAnew(2, 0) + x.resultAnew(2, 1) + x.resultAnew(2, 2), 0);
        Checks.run(x, 0, 1, 2);
        x.tick();
        anew("run", x, Checks.chance(1), 1, 3, 5);
        Checks.due("run", x.resultAnew(2, 0), Checks.chance(2));
        Checks.due("run", x.resultAnew(2, 1), 1);
        Checks.due("run", x.resultAnew(2, 2), Checks.chance(3));
        Checks.run(x, 0, 1);
        anew("run last", x, Checks.chance(4), 2, 3, 5);
    }

    /** "for texts that are the same": another one has 0, until it is run, or until it is as it was. */
    private static void otherTexts() {
        NotebookWeir x = Checks.notebook("?+1");
        x.run(0);
        anew("the same", x, 150);
        Checks.edit(x, 0, 0, "?+2");
        anew("another one", x, 2);
        Checks.edit(x, 0, 1, "?+1");
        anew("as it was", x, 150);
        Checks.edit(x, 0, 2, "?+1;?");
        anew("a longer one", x, 0);
        Checks.edit(x, 0, 3, "?");
        anew("a shorter one", x, 0);
        x.run(0);
        anew("run", x, Checks.chance(2));
        Checks.edit(x, 0, 4, "?+1");
        anew("that was not run last", x, 1);
    }

    /** "and beyond": what was drawn until an error is recorded, and nothing else. */
    private static void beyond() {
        NotebookWeir x = Checks.notebook("?+w;[?,@,?]", "w+?");
        x.tick();
        Checks.run(x, 0, 1);
        Checks.states("run", x, FAILED, FAILED);
        x.widget('w', 1000, 1000);
        Checks.due("beyond", x.resultAnew(0, 0), 0);
        Checks.due("beyond", x.resultAnew(0, 1), 0);
        Checks.due("nothing was drawn", x.resultAnew(1, NONE), 1000);
        NotebookWeir z = Checks.notebook("?+v;[?,@]", "v=0", "v+?");
        Checks.run(z, 0, 2);
        Checks.due("recorded", z.resultAnew(0, 0), Checks.chance(2));
        Checks.due("recorded", z.resultAnew(2, NONE), Checks.chance(3));
        Checks.edit(z, 1, 0, "1");
        Checks.run(z, 0, 2);
        Checks.states("run last with an error", z, FAILED, STALE, FAILED);
        Checks.edit(z, 1, 1, "v=0");
        Checks.due("beyond what was recorded last", z.resultAnew(0, 0), 0);
        Checks.due("beyond what was recorded last", z.resultAnew(2, NONE), 0);
        NotebookWeir y = Checks.notebook("a=?;[1].0;[?,@,a]", "?;#w;?");
        y.tick();
        Checks.run(y, 0, 1);
        Checks.due("recorded", y.resultAnew(0, 0), Checks.chance(2));
        Checks.due("recorded", y.resultAnew(0, 1), 1);
        Checks.due("recorded", y.resultAnew(0, 2), Checks.chance(1));
        Checks.edit(y, 1, 0, "a!?;a+?");
        y.run(1);
        Checks.due("recorded", y.resultAnew(1, NONE), Checks.chance(1) + Checks.chance(4) + Checks.chance(5));
    }

    /** Records are of the last run: killing, restoring, and what is found again leave them. */
    private static void recordsStay() {
        NotebookWeir x = Checks.notebook("?", "1", "?");
        Checks.run(x, 0, 1);
        x.kill();
        Checks.due("killed", x.resultAnew(0, NONE), 149);
        x.restore();
        Checks.due("restored", x.resultAnew(0, NONE), 149);
        x.kill();
        x.run(0);
        Checks.due("run", x.resultAnew(0, NONE), Checks.chance(2));
        Checks.run(x, 2, 1);
        Checks.edit(x, 1, 0, "?");
        x.run(1);
        Checks.edit(x, 1, 1, "1");
        Checks.due("found again", x.run(1), 1);
        Checks.edit(x, 1, 2, "?");
        Checks.due("that was no run", x.resultAnew(1, NONE), Checks.chance(4));
        Checks.due("of another cell", x.resultAnew(2, NONE), Checks.chance(3));
    }

    /** It runs nothing that is told by other calls. */
    private static void changesNothing() {
        NotebookWeir x = Checks.notebook("a=?;a", "b=a;b", "c=1;c", "#1", "d=5;d");
        Checks.run(x, 1, 3, 4);
        x.checkpoint();
        Checks.show(x, x.widget('w', 0, 9), 3);
        Checks.edit(x, 4, 0, "d=6;d");
        for (int c = 0; c < 5; c++) {
            int cell = c;
            if (c == 3) {
                Checks.state("an error", () -> x.resultAnew(cell, NONE));
            } else {
                x.resultAnew(c, NONE);
            }
        }
        Checks.states("the same states", x, FRESH, FRESH, STALE, FAILED, STALE);
        Checks.counts("the same runs", x, 4, 0);
        Checks.due("the same error", x.error(3), 200);
        Checks.due("the same result", x.result(1, NONE), 149);
        Checks.due("it is not found again by that", x.run(4), 0);
        Checks.due("not forgotten by that", x.run(1), 1);
        x.kill();
        x.resultAnew(0, NONE);
        Checks.due("it can be restored", x.restore(), 3);
        x.run(0);
        Checks.due("nothing was drawn", x.result(0, NONE), Checks.chance(2));
    }

    private static void inEachMode() {
        for (int mode = 0; mode < 3; mode++) {
            NotebookWeir x = Checks.notebook("a=?+4;a", "a", "x");
            x.mode(mode);
            x.kill();
            int runs = x.runs();
            anew("mode " + mode, x, mode == 2 ? 153 : 4, mode == 2 ? 153 : 4);
            refused("mode " + mode, x, 2);
            Checks.states("nothing is run by that", x, STALE, STALE, STALE);
            Checks.counts("nothing is run by that", x, runs, 0);
        }
    }

    /** "no result, or that has no such item". */
    private static void items() {
        NotebookWeir x = Checks.notebook("1", "[4,5]", "a=1", "a!1", "[4]");
        Checks.query(x, "b=a>9l");
        int[] counts = {0, 2, NONE, NONE, 1, 0};
        for (int c = 0; c < counts.length; c++) {
            int cell = c;
            for (int item : new int[] {Integer.MIN_VALUE, -2, 0, 1, 2, 7, 8, Integer.MAX_VALUE}) {
                if (item >= 0 && item < counts[c]) {
                    Checks.due("item " + item + " of " + c, x.resultAnew(c, item), 4 + item);
                } else {
                    Checks.state("item " + item + " of " + c, () -> x.resultAnew(cell, item));
                }
            }
            if (counts[c] == NONE) {
                refused("no result", x, c);
            } else {
                Checks.due("result of " + c, x.resultAnew(c, NONE), c == 0 ? 1 : counts[c]);
            }
        }
        for (int none : new int[] {-1, 6, 16, Integer.MIN_VALUE, Integer.MAX_VALUE}) {
            Checks.index("no such cell", () -> x.resultAnew(none, NONE));
            Checks.index("no such cell, and no such item", () -> x.resultAnew(none, -2));
        }
    }
}
