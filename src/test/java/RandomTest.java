import java.util.ArrayList;
import java.util.List;
import java.util.Random;

/**
 * Random calls, the same ones again in each run of this test: every answer of the class is compared with the model's,
 * and what is FRESH with what running all anew gives.
 */
public final class RandomTest {
    private static final int NOTEBOOKS = 3000;
    private static final int CALLS = 512;
    /** As many as an act of this test calls at most. */
    private static final int MORE = 48;
    /** The texts of small notebooks, where much comes again: cells are found, and forgotten, and are as then. */
    private static final String[] FEW = {"a=1;a", "a=2;a", "a=w;a", "a=w*2;a", "a=[w];w", "a!1", "b=a;b", "b=a+w;b",
        "b=#[a,w];b", "c=?;c", "c=b+@;c", "c=b+a;c", "b!c;b", "w!1", "[w].1", "d=c*b+a;d", "d=c;d", "a=1+0;a"};
    private static final int FEW_CELLS = 4;
    private static final long ARGUMENT = 1L << 40;
    private static final long STATE = 2L << 40;
    private static final long INDEX = 3L << 40;
    private static final long OTHER = 4L << 40;

    private final Random random;
    private final List<String> told = new ArrayList<>();
    private int spent;
    private NotebookWeir x;
    private Model model;
    private final int[] versions = new int[16];
    private final int[] languages = new int[16];
    private char own = 'a';
    private int made;
    private int added;
    private long last;

    private final boolean isSmall;
    private final boolean isLong;

    private RandomTest(long seed) {
        random = new Random(seed);
        isSmall = seed % 3 == 0;
        isLong = seed % 6 == 0;
    }

    public static void main(String[] args) {
        int calls = 0;
        for (int seed = 0; seed < NOTEBOOKS; seed++) {
            RandomTest test = new RandomTest(seed);
            if (!test.isAsModelled()) {
                System.out.println("seed " + seed + ":");
                for (String line : test.told) {
                    System.out.println("  " + line);
                }
                System.exit(1);
            }
            calls += test.spent;
        }
        System.out.println("RandomTest: " + calls + " calls as modelled");
    }

    private boolean isAsModelled() {
        x = new NotebookWeir();
        model = new Model();
        int kinds = random.nextInt(3);
        while (spent <= CALLS - MORE) {
            boolean isSame = random.nextInt(100) < (isSmall || told.size() < 100 ? 30 : 8) ? write() : askOrAct(kinds);
            if (!isSame || spent <= CALLS - MORE && random.nextInt(40) == 0 && !isFreshAsAnew()) {
                return false;
            }
        }
        return true;
    }

    private interface Call {
        long answer();
    }

    private static long answer(Call call) {
        try {
            return call.answer();
        } catch (RuntimeException e) {
            Class<?> thrown = e.getClass();
            return thrown == IllegalArgumentException.class ? ARGUMENT : thrown == IllegalStateException.class ? STATE
                    : thrown == IndexOutOfBoundsException.class ? INDEX : OTHER;
        }
    }

    private boolean compare(String what, Call got, Call want) {
        long is = answer(got);
        long due = answer(want);
        told.add(what + " -> " + is + (is == due ? "" : ", due is " + due));
        spent++;
        last = is;
        return is == due && is != OTHER;
    }

    private boolean write() {
        int hand = random.nextInt(2);
        boolean isEdit = made > 0 && random.nextInt(3) > (made < 6 ? 1 : 0) || isSmall && made >= FEW_CELLS;
        int cell = isEdit ? pick(made) : made;
        own = (char) ('a' + Math.floorMod(cell, 16));
        int language = isSmall || random.nextInt(10) < 6 ? 0 : 1 + random.nextInt(2);
        if (isEdit && cell >= 0 && cell < made && random.nextInt(10) > 0) {
            language = languages[cell];
        }
        if (!typeText(hand, language)) {
            return false;
        }
        return isEdit ? edit(hand, cell) : make(hand, language);
    }

    private boolean typeText(int hand, int language) {
        String text = isSmall ? FEW[random.nextInt(FEW.length)] : language == 0 ? statements()
                : language == 1 ? query() : rules();
        if (random.nextInt(isSmall ? 100 : 25) == 0) {
            text = spoil(text);
        }
        for (int i = 0; i < text.length(); i++) {
            char sign = text.charAt(i);
            if (!compare("type " + hand + " " + sign, () -> x.type(hand, sign), () -> model.type(hand, sign))) {
                return false;
            }
        }
        int asked = random.nextInt(3);
        return random.nextInt(5) > 0 || compare("fault " + hand + " " + asked, () -> x.fault(hand, asked),
                () -> model.fault(hand, asked));
    }

    private boolean make(int hand, int language) {
        boolean isSame = compare("cell " + hand + " " + language, () -> x.cell(hand, language),
                () -> model.cell(hand, language));
        if (last >= 0 && last < ARGUMENT) {
            languages[made] = language;
            made++;
        }
        return isSame;
    }

    private boolean edit(int hand, int cell) {
        int known = cell >= 0 && cell < made ? versions[cell] : 0;
        int version = random.nextInt(20) == 0 ? known + 1 : known;
        boolean isSame = compare("edit " + hand + " " + cell + " " + version, () -> x.edit(hand, cell, version),
                () -> model.edit(hand, cell, version));
        if (last > 0 && last < ARGUMENT) {
            versions[cell] = (int) last;
        }
        return isSame;
    }

    /** Mostly one of those that there are. */
    private int pick(int count) {
        return random.nextInt(15) == 0 ? random.nextInt(19) - 1 : random.nextInt(Math.max(count, 1));
    }

    private boolean askOrAct(int kinds) {
        int cell = pick(made);
        int widget = pick(added);
        int item = random.nextInt(4) > 0 ? -1 : random.nextInt(5) - 2;
        char name = random.nextInt(30) == 0 ? (char) ('a' - 1 + random.nextInt(28)) : name();
        switch (random.nextInt(24)) {
            case 0: {
                int mode = random.nextInt(12) == 0 ? random.nextInt(5) - 1 : random.nextInt(5) == 0 ? 0 : kinds;
                return compare("mode " + mode, () -> x.mode(mode), () -> model.mode(mode));
            }
            case 1: {
                int least = random.nextInt(8) - 3;
                int most = least + random.nextInt(6) - (random.nextInt(9) == 0 ? 4 : 0);
                if (random.nextInt(3) > 0) {
                    return true;
                }
                char by = random.nextInt(6) == 0 ? name : (char) ('w' + random.nextInt(isSmall ? 1 : 4));
                boolean isSame = compare("widget " + by + " " + least + " " + most, () -> x.widget(by, least, most),
                        () -> model.widget(by, least, most));
                added = last < ARGUMENT ? (int) last + 1 : added;
                return isSame;
            }
            case 2: {
                int other = pick(added);
                return compare("bind " + widget + " " + other, () -> x.bind(widget, other) ? 1 : 0,
                        () -> model.bind(widget, other) ? 1 : 0);
            }
            case 3:
            case 4: {
                int number = random.nextInt(9) - 3;
                return compare("turn " + widget + " " + number, () -> x.turn(widget, number),
                        () -> model.turn(widget, number));
            }
            case 5:
            case 6:
                return compare("tick", () -> x.tick(), () -> model.tick());
            case 7:
                return compare("shows " + widget, () -> x.shows(widget), () -> model.shows(widget));
            case 8:
            case 9:
            case 10:
                return compare("run " + cell, () -> x.run(cell), () -> model.run(cell));
            case 11:
                return compare("checkpoint", () -> x.checkpoint(), () -> model.checkpoint());
            case 12:
                return random.nextInt(isLong ? 60 : 2) > 0 || killAndRestore();
            case 13:
                return compare("restore", () -> x.restore(), () -> model.restore());
            case 14:
            case 15:
                return compare("state " + cell, () -> x.state(cell), () -> model.state(cell));
            case 16:
                return compare("needs " + cell, () -> x.needs(cell), () -> model.needs(cell));
            case 17:
                return compare("ring " + cell, () -> x.ring(cell), () -> model.ring(cell));
            case 18:
            case 19:
                return compare("result " + cell + " " + item, () -> x.result(cell, item),
                        () -> model.result(cell, item));
            case 20:
                return compare("resultAnew " + cell + " " + item, () -> x.resultAnew(cell, item),
                        () -> model.resultAnew(cell, item));
            case 21:
                return compare("value " + name + " " + item, () -> x.value(name, item),
                        () -> model.value(name, item));
            case 22:
                return compare("error " + cell, () -> x.error(cell), () -> model.error(cell));
            default:
                return compare("order " + cell, () -> x.order(cell), () -> model.order(cell))
                        && compare("runs", () -> x.runs(), () -> model.runs())
                        && compare("found", () -> x.found(), () -> model.found());
        }
    }

    private boolean killAndRestore() {
        boolean isSame = compare("kill", () -> x.kill(), () -> model.kill());
        if (random.nextInt(3) == 0) {
            return isSame;
        }
        return isSame && compare("restore", () -> x.restore(), () -> model.restore());
    }

    /** The aim of the document: what is shown as fresh is what running all from nothing gives. */
    private boolean isFreshAsAnew() {
        for (int c = 0; c < made; c++) {
            int cell = c;
            spent += 3;
            if (x.state(cell) == NotebookWeir.FRESH) {
                long is = answer(() -> x.result(cell, NotebookWeir.NONE));
                long anew = answer(() -> x.resultAnew(cell, NotebookWeir.NONE));
                if (is != anew) {
                    told.add("result " + cell + " is " + is + ", but anew " + anew);
                    return false;
                }
            }
        }
        return true;
    }

    // ---- texts

    /** Mostly the name of a cell or a widget that there is. */
    private char name() {
        int kind = random.nextInt(8);
        return (char) (kind == 0 ? 'a' + random.nextInt(26) : kind == 1 ? 'w' + random.nextInt(4)
                : 'a' + random.nextInt(Math.max(made, 1)));
    }

    /** Mostly the name that is the cell's own, so that few are defined twice. */
    private char defined() {
        return random.nextInt(25) == 0 ? name() : own;
    }

    private String statements() {
        StringBuilder text = new StringBuilder();
        int count = 1 + random.nextInt(3);
        for (int i = 0; i < count; i++) {
            text.append(i == 0 ? "" : ";");
            int kind = random.nextInt(8);
            if (kind < 4) {
                text.append(kind < 3 ? defined() : name()).append(kind < 3 ? '=' : '!');
            }
            text.append(expression(random.nextInt(3)));
        }
        return text.toString();
    }

    private String expression(int depth) {
        if (depth == 0 || random.nextInt(4) == 0) {
            int kind = random.nextInt(14);
            return kind < 6 ? name() + "" : kind == 6 ? "?" : kind == 7 ? "@" : kind == 8 ? "[1,3]"
                    : kind == 9 ? random.nextInt(1000000) + "" : random.nextInt(4) + "";
        }
        switch (random.nextInt(9)) {
            case 0:
                return "(" + expression(depth - 1) + ")";
            case 1:
                return "#" + expression(depth - 1);
            case 2:
                return expression(depth - 1) + "." + random.nextInt(3);
            case 3:
                return "[" + expression(depth - 1) + "," + expression(depth - 1) + "]";
            case 4:
                return "[" + expression(depth - 1) + "]";
            default:
                return expression(depth - 1) + "+-*".charAt(random.nextInt(3)) + expression(depth - 1);
        }
    }

    private String query() {
        return defined() + "=" + name() + "<>=".charAt(random.nextInt(3)) + (random.nextInt(4) == 0 ? "-" : "")
                + random.nextInt(random.nextInt(5) == 0 ? 1000000 : 4) + "scml".charAt(random.nextInt(4));
    }

    private String rules() {
        StringBuilder text = new StringBuilder();
        int count = 1 + random.nextInt(3);
        for (int i = 0; i < count; i++) {
            text.append(i == 0 ? "" : ";").append(defined());
            int behind = random.nextInt(4);
            for (int k = 0; k < behind; k++) {
                text.append(k == 0 ? ":" : ",").append(name());
            }
        }
        return text.toString();
    }

    private String spoil(String text) {
        int place = random.nextInt(text.length());
        char sign = "abz019=!;:,.()[]#?@<>-+*slcm~ A".charAt(random.nextInt(31));
        return text.substring(0, place) + sign + text.substring(random.nextBoolean() ? place : place + 1);
    }
}
