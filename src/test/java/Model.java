import java.util.ArrayList;
import java.util.HashMap;
import java.util.List;
import java.util.Map;
import java.util.TreeMap;
import java.util.TreeSet;

/**
 * A second telling of the document, plain and slow, that the class is compared with: texts are evaluated as they are
 * read, needs are sought anew for each question, and a log of all runs tells what is FRESH.
 */
final class Model {
    private final StringBuilder[] hands = {new StringBuilder(), new StringBuilder()};
    private final List<Cell> cells = new ArrayList<>();
    private final List<Widget> widgets = new ArrayList<>();
    private final List<Cell> log = new ArrayList<>();
    private int mode;
    private int time;
    private int chance = 1;
    private int runs;
    private int found;
    private boolean killed;
    private List<Cell> freshAtKill = new ArrayList<>();
    private List<Cell> failedAtKill = new ArrayList<>();

    private static final class Fault extends RuntimeException {
        private static final long serialVersionUID = 1;
        final int place;

        Fault(int place) {
            this.place = place;
        }
    }

    private static final class Failure extends RuntimeException {
        private static final long serialVersionUID = 1;
        final int code;
        int place;

        Failure(int code) {
            this.code = code;
        }
    }

    private static final class Widget {
        char name;
        int least;
        int most;
        int shown;
        Integer turned;
        final TreeSet<Integer> bound = new TreeSet<>();
    }

    /** What a run gave, for a text and the values that it used. */
    private record Run(String text, Map<Character, Object> used, Map<Character, Object> gave) {
    }

    private static final class Cell {
        int number;
        int language;
        String text;
        int edits;
        final TreeSet<Character> defines = new TreeSet<>();
        final TreeSet<Character> changes = new TreeSet<>();
        final TreeSet<Character> uses = new TreeSet<>();
        boolean valid;
        int logged;
        TreeSet<Integer> neededThen;
        Map<Integer, Integer> shownThen;
        Failure failure;
        Map<Character, Object> gave = Map.of();
        final List<Run> past = new ArrayList<>();
        Run saved;
        String recordedText = "";
        List<Integer> recorded = new ArrayList<>();
    }

    // The result stands among what a cell gave under this name.
    private static final char RESULT = '*';

    // ---- reading and evaluating: with an environment a text is run, without one it is only read

    private final class Evaluation {
        final String text;
        final Map<Character, Object> values;
        final List<Integer> draws;
        final boolean drawsAnew;
        final List<Integer> drawn = new ArrayList<>();
        final Cell noted = new Cell();
        Map<Character, Object> gave = new HashMap<>();
        int at;

        Evaluation(String text, Map<Character, Object> values, List<Integer> draws, boolean drawsAnew) {
            this.text = text;
            this.values = values == null ? null : new HashMap<>(values);
            this.draws = draws;
            this.drawsAnew = drawsAnew;
        }

        boolean isRunning() {
            return values != null;
        }

        char peek() {
            return at < text.length() ? text.charAt(at) : '\uffff';
        }

        boolean isNameAt(int place) {
            return place < text.length() && text.charAt(place) >= 'a' && text.charAt(place) <= 'z';
        }

        char name() {
            if (!isNameAt(at)) {
                throw new Fault(at);
            }
            return text.charAt(at++);
        }

        char one(String of) {
            if (at >= text.length() || of.indexOf(text.charAt(at)) < 0) {
                throw new Fault(at);
            }
            return text.charAt(at++);
        }

        boolean isOne(String of) {
            return at < text.length() && of.indexOf(text.charAt(at)) >= 0;
        }

        int number() {
            int from = at;
            while (at < from + 6 && isOne("0123456789")) {
                at++;
            }
            if (at == from) {
                throw new Fault(at);
            }
            return Integer.parseInt(text.substring(from, at));
        }

        void all(int language) {
            if (language == 0) {
                statements();
            } else if (language == 1) {
                query();
            } else {
                rules();
            }
            if (at < text.length()) {
                throw new Fault(at);
            }
        }

        void statements() {
            do {
                int start = at;
                try {
                    statement();
                } catch (Failure failure) {
                    failure.place = start;
                    throw failure;
                }
            } while (peek() == ';' && at++ >= 0);
            for (char name : noted.defines) {
                gave.put(name, isRunning() ? values.get(name) : 0);
            }
            for (char name : noted.changes) {
                gave.put(name, isRunning() ? values.get(name) : 0);
            }
        }

        void statement() {
            boolean isNamed = isNameAt(at) && at + 1 < text.length() && "=!".indexOf(text.charAt(at + 1)) >= 0;
            if (!isNamed) {
                Object value = sum();
                gave.put(RESULT, value);
                return;
            }
            char name = name();
            boolean isChange = one("=!") == '!';
            if (isChange && isRunning() && !values.containsKey(name)) {
                throw new Failure(1);
            }
            Object value = sum();
            if (isChange) {
                if (!noted.defines.contains(name)) {
                    noted.changes.add(name);
                    noted.uses.add(name);
                }
                if (isRunning()) {
                    values.put(name, asNumber(values.get(name)) + asNumber(value));
                }
            } else {
                noted.defines.add(name);
                if (isRunning()) {
                    values.put(name, value);
                }
            }
            noted.neededThen = null;
            known.add(name);
        }

        final TreeSet<Character> known = new TreeSet<>();

        int asNumber(Object value) {
            if (!isRunning()) {
                return 0;
            }
            if (value instanceof Integer number) {
                return number;
            }
            throw new Failure(2);
        }

        List<?> asRow(Object value) {
            if (value instanceof List<?> row) {
                return row;
            }
            throw new Failure(2);
        }

        Object sum() {
            Object value = product();
            while (isOne("+-")) {
                int sign = one("+-") == '+' ? 1 : -1;
                Object other = product();
                value = asNumber(value) + sign * asNumber(other);
            }
            return value;
        }

        Object product() {
            Object value = picked();
            while (isOne("*")) {
                at++;
                Object other = picked();
                value = asNumber(value) * asNumber(other);
            }
            return value;
        }

        Object picked() {
            Object value = part();
            while (isOne(".")) {
                at++;
                int item = one("0123456789") - '0';
                if (isRunning()) {
                    List<?> row = asRow(value);
                    if (item >= row.size()) {
                        throw new Failure(3);
                    }
                    value = row.get(item);
                }
            }
            return value;
        }

        Object part() {
            if (isNameAt(at)) {
                return valueOf(name());
            }
            if (isOne("0123456789")) {
                return number();
            }
            char sign = one("?@#([");
            switch (sign) {
                case '?':
                case '@':
                    return isRunning() ? draw(sign == '@') : 0;
                case '#':
                    Object counted = picked();
                    return isRunning() ? asRow(counted).size() : 0;
                case '(':
                    Object value = sum();
                    one(")");
                    return value;
                default:
                    List<Integer> row = new ArrayList<>();
                    do {
                        row.add(asNumber(sum()));
                    } while (one(row.size() < 8 ? ",]" : "]") == ',');
                    return row;
            }
        }

        Object valueOf(char name) {
            if (!known.contains(name)) {
                noted.uses.add(name);
            }
            if (isRunning() && !values.containsKey(name)) {
                throw new Failure(1);
            }
            return isRunning() ? values.get(name) : Integer.valueOf(0);
        }

        int draw(boolean isTime) {
            int place = drawn.size();
            int number = 0;
            if (place < draws.size()) {
                number = draws.get(place);
            } else if (drawsAnew && isTime) {
                number = time;
            } else if (drawsAnew) {
                chance = (int) ((75L * chance + 74) % 65537);
                number = chance;
            }
            drawn.add(number);
            return number;
        }

        void query() {
            char defined = name();
            one("=");
            Object of = valueOf(name());
            char comparison = one("<>=");
            boolean isNegative = isOne("-") && at++ >= 0;
            int number = number() * (isNegative ? -1 : 1);
            char summary = one("scml");
            noted.defines.add(defined);
            List<?> items = of instanceof List<?> row ? row : List.of(of);
            List<Integer> kept = new ArrayList<>();
            int sum = 0;
            for (Object object : items) {
                int item = (Integer) object;
                int compared = Integer.compare(item, number);
                if (compared == (comparison == '<' ? -1 : comparison == '>' ? 1 : 0)) {
                    kept.add(item);
                    sum += item;
                }
            }
            int most = kept.isEmpty() ? 0 : java.util.Collections.max(kept);
            Object value = summary == 's' ? (Object) sum : summary == 'c' ? (Object) kept.size()
                    : summary == 'm' ? (Object) most : kept;
            gave.put(defined, value);
            gave.put(RESULT, value);
        }

        void rules() {
            List<Character> heads = new ArrayList<>();
            List<List<Character>> bodies = new ArrayList<>();
            List<Integer> starts = new ArrayList<>();
            do {
                starts.add(at);
                heads.add(name());
                List<Character> body = new ArrayList<>();
                if (peek() == ':') {
                    do {
                        at++;
                        body.add(name());
                    } while (peek() == ',' && body.size() < 5);
                }
                bodies.add(body);
            } while (peek() == ';' && at++ >= 0);
            noted.defines.addAll(heads);
            for (List<Character> body : bodies) {
                noted.uses.addAll(body);
            }
            noted.uses.removeAll(heads);
            if (isRunning()) {
                hold(heads, bodies, starts);
            }
        }

        void hold(List<Character> heads, List<List<Character>> bodies, List<Integer> starts) {
            TreeSet<Character> holding = new TreeSet<>();
            for (int i = 0; i < bodies.size(); i++) {
                for (char name : bodies.get(i)) {
                    if (!noted.uses.contains(name)) {
                        continue;
                    }
                    if (!values.containsKey(name)) {
                        Failure failure = new Failure(1);
                        failure.place = starts.get(i);
                        throw failure;
                    }
                    Object value = values.get(name);
                    if (value instanceof List<?> row ? !row.isEmpty() : !value.equals(0)) {
                        holding.add(name);
                    }
                }
            }
            boolean isMore = true;
            while (isMore) {
                isMore = false;
                for (int i = 0; i < heads.size(); i++) {
                    isMore |= holding.containsAll(bodies.get(i)) && holding.add(heads.get(i));
                }
            }
            int count = 0;
            for (char head : noted.defines) {
                gave.put(head, holding.contains(head) ? 1 : 0);
                count += holding.contains(head) ? 1 : 0;
            }
            gave.put(RESULT, count);
        }
    }

    private int faultOf(String text, int language) {
        try {
            new Evaluation(text, null, null, false).all(language);
            return -1;
        } catch (Fault fault) {
            return fault.place;
        }
    }

    // ---- needs: cells are told by 0 to 15, widgets by 16 to 19

    private TreeSet<Integer> givers(Cell cell, char name) {
        TreeSet<Integer> givers = new TreeSet<>();
        int last = -1;
        for (Cell other : cells) {
            boolean isAhead = !cell.changes.contains(name) || other.number < cell.number;
            if (other.changes.contains(name) && isAhead) {
                last = other.number;
            }
        }
        if (last >= 0) {
            givers.add(last);
        } else {
            givers.addAll(definers(name));
        }
        givers.remove(cell.number);
        return givers;
    }

    private TreeSet<Integer> definers(char name) {
        TreeSet<Integer> definers = new TreeSet<>();
        for (Cell cell : cells) {
            if (cell.defines.contains(name)) {
                definers.add(cell.number);
            }
        }
        for (int w = 0; w < widgets.size(); w++) {
            if (widgets.get(w).name == name) {
                definers.add(16 + w);
            }
        }
        return definers;
    }

    private TreeSet<Integer> needed(Cell cell) {
        TreeSet<Integer> needed = new TreeSet<>();
        for (char name : cell.uses) {
            needed.addAll(givers(cell, name));
        }
        return needed;
    }

    private List<Cell> neededCells(Cell cell) {
        List<Cell> needed = new ArrayList<>();
        for (int number : needed(cell)) {
            if (number < 16) {
                needed.add(cells.get(number));
            }
        }
        return needed;
    }

    private TreeSet<Integer> over(Cell cell) {
        TreeSet<Integer> over = new TreeSet<>();
        List<Cell> open = new ArrayList<>(neededCells(cell));
        while (!open.isEmpty()) {
            Cell next = open.remove(0);
            if (over.add(next.number)) {
                open.addAll(neededCells(next));
            }
        }
        return over;
    }

    private boolean isTwice(Cell cell) {
        for (char name : cell.defines) {
            if (definers(name).size() > 1) {
                return true;
            }
        }
        return false;
    }

    private boolean isInRing(Cell cell) {
        return over(cell).contains(cell.number);
    }

    private int stateOf(Cell cell) {
        if (isTwice(cell)) {
            return 5;
        }
        if (isInRing(cell)) {
            return 4;
        }
        for (int number : over(cell)) {
            if (isTwice(cells.get(number)) || isInRing(cells.get(number))) {
                return 3;
            }
        }
        boolean isStale = false;
        for (Cell needed : neededCells(cell)) {
            int state = stateOf(needed);
            if (state == 2 || state == 3) {
                return 3;
            }
            isStale |= state == 1;
        }
        if (isStale || !isAsThen(cell)) {
            return 1;
        }
        return cell.failure == null ? 0 : 2;
    }

    private boolean isAsThen(Cell cell) {
        if (!cell.valid || !cell.neededThen.equals(needed(cell)) || !cell.shownThen.equals(shownNow(cell))) {
            return false;
        }
        for (int i = cell.logged; i < log.size(); i++) {
            if (cell.neededThen.contains(log.get(i).number)) {
                return false;
            }
        }
        return true;
    }

    private Map<Integer, Integer> shownNow(Cell cell) {
        Map<Integer, Integer> shown = new TreeMap<>();
        for (int number : needed(cell)) {
            if (number >= 16) {
                shown.put(number, widgets.get(number - 16).shown);
            }
        }
        return shown;
    }

    private boolean isReady(Cell cell) {
        for (Cell needed : neededCells(cell)) {
            if (stateOf(needed) != 0) {
                return false;
            }
        }
        return stateOf(cell) == 1;
    }

    // ---- running

    private Map<Character, Object> usedBy(Cell cell, Map<Integer, Map<Character, Object>> given) {
        Map<Character, Object> used = new TreeMap<>();
        for (char name : cell.uses) {
            for (int number : givers(cell, name)) {
                used.put(name, number >= 16 ? widgets.get(number - 16).shown : given.get(number).get(name));
            }
        }
        return used;
    }

    private Map<Integer, Map<Character, Object>> givenNow() {
        Map<Integer, Map<Character, Object>> given = new TreeMap<>();
        for (Cell cell : cells) {
            given.put(cell.number, cell.gave);
        }
        return given;
    }

    private boolean has(Cell cell, String signs) {
        for (char sign : signs.toCharArray()) {
            if (cell.text.indexOf(sign) >= 0) {
                return true;
            }
        }
        return false;
    }

    private int runOrFind(Cell cell) {
        Map<Character, Object> used = usedBy(cell, givenNow());
        if (!has(cell, "?@!")) {
            for (Run run : cell.past) {
                if (run.text().equals(cell.text) && run.used().equals(used)) {
                    found++;
                    note(cell, run.gave(), null);
                    return 1;
                }
            }
        }
        execute(cell, used, List.of());
        return 0;
    }

    private void execute(Cell cell, Map<Character, Object> used, List<Integer> draws) {
        Evaluation run = new Evaluation(cell.text, used, draws, true);
        Failure failure = null;
        try {
            // Which heads there are must be known ahead of what they need.
            run.all(cell.language);
        } catch (Failure e) {
            failure = e;
        }
        runs++;
        cell.recordedText = cell.text;
        cell.recorded = run.drawn;
        note(cell, run.gave, failure);
        if (failure == null && !has(cell, "?@!")) {
            cell.past.add(new Run(cell.text, used, run.gave));
            if (cell.past.size() > 4) {
                cell.past.remove(0);
            }
        }
    }

    private void note(Cell cell, Map<Character, Object> gave, Failure failure) {
        killed = false;
        log.add(cell);
        cell.logged = log.size();
        cell.valid = true;
        cell.gave = gave;
        cell.failure = failure;
        cell.neededThen = needed(cell);
        cell.shownThen = shownNow(cell);
    }

    private void runStale(TreeSet<Integer> among) {
        boolean isMore = true;
        while (isMore) {
            isMore = false;
            for (Cell cell : cells) {
                if (!isMore && among.contains(cell.number) && isReady(cell)) {
                    runOrFind(cell);
                    isMore = true;
                }
            }
        }
    }

    private int runWithNeeds(Cell cell) {
        runStale(over(cell));
        return stateOf(cell) == 3 ? -1 : runOrFind(cell);
    }

    private void atOnce() {
        if (mode == 2) {
            TreeSet<Integer> all = new TreeSet<>();
            for (Cell cell : cells) {
                all.add(cell.number);
            }
            runStale(all);
        }
    }

    private void ask(Cell cell) {
        if (mode == 1 && stateOf(cell) == 1) {
            runWithNeeds(cell);
        }
    }

    private Cell cellOf(int cell) {
        if (cell < 0 || cell >= cells.size()) {
            throw new IndexOutOfBoundsException();
        }
        return cells.get(cell);
    }

    private Widget widgetOf(int widget) {
        if (widget < 0 || widget >= widgets.size()) {
            throw new IndexOutOfBoundsException();
        }
        return widgets.get(widget);
    }

    private static void demand(boolean holds) {
        if (!holds) {
            throw new IllegalArgumentException();
        }
    }

    private static void allow(boolean holds) {
        if (!holds) {
            throw new IllegalStateException();
        }
    }

    private static int tell(Object value, int item) {
        allow(value != null && item >= -1);
        if (value instanceof Integer number) {
            allow(item == -1);
            return number;
        }
        List<?> row = (List<?>) value;
        allow(item < row.size());
        return item == -1 ? row.size() : (Integer) row.get(item);
    }

    private void setText(Cell cell, String text) {
        Evaluation read = new Evaluation(text, null, null, false);
        read.all(cell.language);
        cell.text = text;
        cell.defines.clear();
        cell.changes.clear();
        cell.uses.clear();
        cell.defines.addAll(read.noted.defines);
        cell.changes.addAll(read.noted.changes);
        cell.uses.addAll(read.noted.uses);
        cell.valid = false;
        killed = false;
    }

    // ---- the calls

    public int type(int hand, char character) {
        demand(hand == 0 || hand == 1);
        allow(hands[hand].length() < 40);
        return hands[hand].append(character).length();
    }

    public int fault(int hand, int language) {
        demand((hand == 0 || hand == 1) && language >= 0 && language <= 2);
        return faultOf(hands[hand].toString(), language);
    }

    public int cell(int hand, int language) {
        demand((hand == 0 || hand == 1) && language >= 0 && language <= 2);
        allow(cells.size() < 16);
        String text = hands[hand].toString();
        hands[hand].setLength(0);
        if (faultOf(text, language) != -1) {
            return -1;
        }
        Cell made = new Cell();
        made.number = cells.size();
        made.language = language;
        setText(made, text);
        cells.add(made);
        atOnce();
        return made.number;
    }

    public int edit(int hand, int cell, int version) {
        Cell edited = cellOf(cell);
        demand(hand == 0 || hand == 1);
        allow(edited.edits == version);
        String text = hands[hand].toString();
        hands[hand].setLength(0);
        if (faultOf(text, edited.language) != -1) {
            return -1;
        }
        setText(edited, text);
        edited.edits++;
        atOnce();
        return edited.edits;
    }

    public int mode(int mode) {
        demand(mode >= 0 && mode <= 2);
        int before = this.mode;
        this.mode = mode;
        atOnce();
        return before;
    }

    public int widget(char name, int least, int most) {
        demand("abcdefghijklmnopqrstuvwxyz".indexOf(name) >= 0);
        demand(-1000 <= least && least <= most && most <= 1000);
        allow(widgets.size() < 4);
        for (Widget other : widgets) {
            allow(other.name != name);
        }
        Widget added = new Widget();
        added.name = name;
        added.least = least;
        added.most = most;
        added.shown = least;
        widgets.add(added);
        killed = false;
        atOnce();
        return widgets.size() - 1;
    }

    public boolean bind(int widget, int other) {
        Widget one = widgetOf(widget);
        Widget two = widgetOf(other);
        demand(widget != other);
        if (one.bound.remove(other)) {
            two.bound.remove(widget);
            return false;
        }
        two.bound.add(widget);
        return one.bound.add(other);
    }

    public int turn(int widget, int number) {
        Widget turned = widgetOf(widget);
        demand(turned.least <= number && number <= turned.most);
        turned.turned = number;
        killed = false;
        return turned.shown;
    }

    public int tick() {
        time++;
        killed = false;
        TreeSet<Integer> anew = new TreeSet<>();
        for (int w = 0; w < widgets.size(); w++) {
            if (widgets.get(w).turned != null) {
                widgets.get(w).shown = widgets.get(w).turned;
                anew.add(w);
            }
        }
        for (int w = 0; w < widgets.size(); w++) {
            if (widgets.get(w).turned != null) {
                spread(w, widgets.get(w).turned, anew);
            }
        }
        for (Widget widget : widgets) {
            widget.turned = null;
        }
        atOnce();
        return time;
    }

    private void spread(int from, int number, TreeSet<Integer> anew) {
        for (int w : widgets.get(from).bound) {
            if (anew.add(w)) {
                Widget widget = widgets.get(w);
                widget.shown = Math.min(widget.most, Math.max(widget.least, number));
                spread(w, number, anew);
            }
        }
    }

    public int shows(int widget) {
        return widgetOf(widget).shown;
    }

    public int run(int cell) {
        Cell run = cellOf(cell);
        allow(stateOf(run) < 3);
        return runWithNeeds(run);
    }

    public int checkpoint() {
        int kept = 0;
        for (Cell cell : cells) {
            cell.saved = null;
            if (stateOf(cell) == 0 && !has(cell, "?@")) {
                boolean isOfNumbers = true;
                for (Object value : cell.gave.values()) {
                    isOfNumbers &= value instanceof Integer;
                }
                if (isOfNumbers) {
                    cell.saved = new Run(cell.text, usedBy(cell, givenNow()), cell.gave);
                    kept++;
                }
            }
        }
        return kept;
    }

    public int kill() {
        freshAtKill = new ArrayList<>();
        failedAtKill = new ArrayList<>();
        for (Cell cell : cells) {
            if (stateOf(cell) == 0) {
                freshAtKill.add(cell);
            } else if (stateOf(cell) == 2) {
                failedAtKill.add(cell);
            }
        }
        for (Cell cell : cells) {
            cell.valid = false;
            cell.past.clear();
        }
        killed = true;
        return freshAtKill.size();
    }

    public int restore() {
        allow(killed);
        int restored = 0;
        TreeSet<Integer> waiting = new TreeSet<>();
        for (Cell cell : cells) {
            if (freshAtKill.contains(cell) || failedAtKill.contains(cell)) {
                waiting.add(cell.number);
            }
        }
        boolean isMore = true;
        while (isMore) {
            isMore = false;
            for (int number : new TreeSet<>(waiting)) {
                Cell cell = cells.get(number);
                if (!isMore && isReady(cell)) {
                    restored += restoreOne(cell);
                    waiting.remove(number);
                    isMore = true;
                }
            }
        }
        killed = false;
        return restored;
    }

    private int restoreOne(Cell cell) {
        Map<Character, Object> used = usedBy(cell, givenNow());
        Run saved = cell.saved;
        boolean isSaved = saved != null && saved.text().equals(cell.text) && saved.used().equals(used);
        if (isSaved && freshAtKill.contains(cell)) {
            note(cell, saved.gave(), null);
            return 0;
        }
        execute(cell, used, cell.text.equals(cell.recordedText) ? cell.recorded : List.of());
        return 1;
    }

    public int state(int cell) {
        return stateOf(cellOf(cell));
    }

    public int needs(int cell) {
        int needs = 0;
        for (int number : needed(cellOf(cell))) {
            needs += 1 << number;
        }
        return needs;
    }

    public int ring(int cell) {
        TreeSet<Integer> over = over(cellOf(cell));
        int ring = 0;
        for (int number : over) {
            ring += over(cells.get(number)).contains(cell) ? 1 << number : 0;
        }
        return ring;
    }

    public int result(int cell, int item) {
        Cell asked = cellOf(cell);
        ask(asked);
        allow(stateOf(asked) == 0);
        return tell(asked.gave.get(RESULT), item);
    }

    private List<Cell> plain() {
        List<Cell> plain = new ArrayList<>();
        for (int count = 0; count < cells.size(); count++) {
            for (Cell cell : cells) {
                boolean isOut = isTwice(cell) || isInRing(cell);
                for (int number : over(cell)) {
                    isOut |= isTwice(cells.get(number)) || isInRing(cells.get(number));
                }
                if (!isOut && !plain.contains(cell) && plain.containsAll(neededCells(cell))) {
                    plain.add(cell);
                    break;
                }
            }
        }
        return plain;
    }

    public int resultAnew(int cell, int item) {
        Cell asked = cellOf(cell);
        Map<Integer, Map<Character, Object>> given = new TreeMap<>();
        for (Cell next : plain()) {
            boolean isBehind = false;
            for (Cell needed : neededCells(next)) {
                isBehind |= !given.containsKey(needed.number);
            }
            if (!isBehind) {
                List<Integer> draws = next.text.equals(next.recordedText) ? next.recorded : List.of();
                Evaluation run = new Evaluation(next.text, usedBy(next, given), draws, false);
                try {
                    run.all(next.language);
                    given.put(next.number, run.gave);
                } catch (Failure failure) {
                    given.remove(next.number);
                }
            }
        }
        allow(given.containsKey(asked.number));
        return tell(given.get(asked.number).get(RESULT), item);
    }

    public int value(char name, int item) {
        demand("abcdefghijklmnopqrstuvwxyz".indexOf(name) >= 0);
        TreeSet<Integer> definers = definers(name);
        allow(definers.size() == 1);
        int giver = definers.first();
        for (Cell cell : cells) {
            giver = cell.changes.contains(name) ? -1 - cell.number : giver;
        }
        giver = giver < 0 ? -1 - giver : giver;
        if (giver >= 16) {
            return tell(widgets.get(giver - 16).shown, item);
        }
        ask(cells.get(giver));
        allow(stateOf(cells.get(giver)) == 0);
        return tell(cells.get(giver).gave.get(name), item);
    }

    public int error(int cell) {
        Cell asked = cellOf(cell);
        ask(asked);
        return stateOf(asked) == 2 ? asked.failure.code * 100 + asked.failure.place : 0;
    }

    public int order(int place) {
        if (place < 0) {
            throw new IndexOutOfBoundsException();
        }
        List<Cell> plain = plain();
        return place < plain.size() ? plain.get(place).number : -1;
    }

    public int runs() {
        return runs;
    }

    public int found() {
        return found;
    }
}
