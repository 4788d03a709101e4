/**
 * A notebook of cells in three small languages, run by what they need.
 *
 * All tables are made with the object and used again by every call, so that no call makes anything.
 */
public final class NotebookWeir {
    /** None. */
    public static final int NONE = -1;
    /** Languages. */
    public static final int EXPRESSIONS = 0, QUERIES = 1, RULES = 2;
    /** States of cells. */
    public static final int FRESH = 0, STALE = 1, FAILED = 2, BLOCKED = 3, RING = 4, TWICE = 5;
    /** Modes. */
    public static final int BY_HAND = 0, ASKED = 1, AT_ONCE = 2;
    /** Errors. */
    public static final int UNTOLD = 1, KIND = 2, ITEM = 3;

    private static final int HANDS = 2;
    private static final int MOST_SIGNS = 40;
    private static final int MOST_CELLS = 16;
    private static final int MOST_WIDGETS = 4;
    private static final int MOST_ITEMS = 8;
    private static final int MOST_DIGITS = 6;
    private static final int MOST_BEHIND_COLON = 5;
    private static final int MOST_PAST = 4;
    private static final int FARTHEST = 1000;
    private static final int ALL_CELLS = (1 << MOST_CELLS) - 1;

    private static final int NAMES = 26;
    private static final int RESULT = NAMES;
    private static final int PLACES = NAMES + 1;

    // What a place for a value holds; a row of n items is ROW + n.
    private static final int NOTHING = 0;
    private static final int NUMBER = 1;
    private static final int ROW = 2;

    // Steps of a code.
    private static final int PUT_NUMBER = 0;
    private static final int PUT_NAME = 1;
    private static final int PUT_CHANCE = 2;
    private static final int PUT_TIME = 3;
    private static final int ADD = 4;
    private static final int SUBTRACT = 5;
    private static final int MULTIPLY = 6;
    private static final int PICK_ITEM = 7;
    private static final int COUNT_ITEMS = 8;
    private static final int DEMAND_NUMBER = 9;
    private static final int MAKE_ROW = 10;
    private static final int DEMAND_VALUE = 11;
    private static final int DEFINE = 12;
    private static final int CHANGE = 13;
    private static final int GIVE_RESULT = 14;
    private static final int KEEP_LESS = 15;
    private static final int KEEP_GREATER = 16;
    private static final int KEEP_SAME = 17;
    private static final int SUM_ITEMS = 18;
    private static final int FIND_GREATEST = 19;

    // Each step but the last statement's GIVE_RESULT has a character of the text of its own.
    private static final int MOST_STEPS = MOST_SIGNS + 1;

    private final Text[] hands = new Text[HANDS];
    private final Cell[] cells = new Cell[MOST_CELLS];
    private final int[] states = new int[MOST_CELLS];
    private final Widgets widgets = new Widgets();
    private final Web web = new Web();
    private final Reader reader = new Reader();
    private final Code scratch = new Code();
    private final Machine machine = new Machine();
    private final Source source = new Source();
    private final Values used = new Values();
    private int cellCount;
    private int modeNow = BY_HAND;
    private int runCount;
    private int foundCount;
    private int moment;
    private int freshAtKill;
    private int failedAtKill;
    private boolean restorable;

    /** Makes a notebook without cells and widgets, at the time 0, run by hand. */
    public NotebookWeir() {
        for (int hand = 0; hand < HANDS; hand++) {
            hands[hand] = new Text();
        }
        for (int c = 0; c < MOST_CELLS; c++) {
            cells[c] = new Cell();
        }
    }

    // ---- texts and cells

    /**
     * Types a character behind those that a hand has typed.
     *
     * @param hand 0 or 1
     * @param character any character
     * @return how many it has typed then
     * @throws IllegalArgumentException if hand is out of its range
     * @throws IllegalStateException if it has typed 40
     */
    public int type(int hand, char character) throws IllegalArgumentException, IllegalStateException {
        if (!isHand(hand)) {
            throw new IllegalArgumentException();
        }
        if (!hands[hand].add(character)) {
            throw new IllegalStateException();
        }
        return hands[hand].length;
    }

    /**
     * Tells where what a hand has typed is no text of a language.
     *
     * @param hand 0 or 1
     * @param language EXPRESSIONS, QUERIES or RULES
     * @return the place, as told; NONE if it is a text
     * @throws IllegalArgumentException if hand or language is out of its range
     */
    public int fault(int hand, int language) throws IllegalArgumentException {
        if (!isHand(hand) || !isLanguage(language)) {
            throw new IllegalArgumentException();
        }
        return reader.read(hands[hand], language, scratch);
    }

    /**
     * Makes a cell of what a hand has typed, which has typed nothing then.
     *
     * @param hand 0 or 1
     * @param language EXPRESSIONS, QUERIES or RULES
     * @return its number; NONE if that is no text
     * @throws IllegalArgumentException if hand or language is out of its range
     * @throws IllegalStateException if there are 16
     */
    public int cell(int hand, int language) throws IllegalArgumentException, IllegalStateException {
        if (!isHand(hand) || !isLanguage(language)) {
            throw new IllegalArgumentException();
        }
        if (cellCount >= MOST_CELLS) {
            throw new IllegalStateException();
        }
        int made = cellCount;
        if (!takeTyped(hand, cells[made], reader.read(hands[hand], language, scratch))) {
            return NONE;
        }
        cellCount++;
        weaveAnew();
        runIfAtOnce();
        return made;
    }

    /**
     * Gives a cell what a hand has typed as its text.
     *
     * @param hand 0 or 1
     * @param cell its number
     * @param version how often it was edited, as the hand knows
     * @return how often it was edited then; NONE if that is no text of its language
     * @throws IndexOutOfBoundsException if there is no such cell
     * @throws IllegalArgumentException if hand is out of its range
     * @throws IllegalStateException if it was edited another number of times
     */
    public int edit(int hand, int cell, int version)
            throws IndexOutOfBoundsException, IllegalArgumentException, IllegalStateException {
        if (!isCell(cell)) {
            throw new IndexOutOfBoundsException();
        }
        if (!isHand(hand)) {
            throw new IllegalArgumentException();
        }
        Cell edited = cells[cell];
        if (edited.edits != version) {
            throw new IllegalStateException();
        }
        if (!takeTyped(hand, edited, reader.read(hands[hand], edited.code.language, scratch))) {
            return NONE;
        }
        edited.edits++;
        weaveAnew();
        runIfAtOnce();
        return edited.edits;
    }

    /**
     * Sets the mode.
     *
     * @param mode BY_HAND, ASKED or AT_ONCE
     * @return the one before
     * @throws IllegalArgumentException if it is none of these
     */
    public int mode(int mode) throws IllegalArgumentException {
        if (mode != BY_HAND && mode != ASKED && mode != AT_ONCE) {
            throw new IllegalArgumentException();
        }
        int before = modeNow;
        modeNow = mode;
        runIfAtOnce();
        return before;
    }

    // ---- widgets, time

    /**
     * Adds a widget.
     *
     * @param name a to z
     * @param least -1000 to 1000
     * @param most least to 1000
     * @return its number
     * @throws IllegalArgumentException if name, least or most is out of its range
     * @throws IllegalStateException if there are 4, or one has this name
     */
    public int widget(char name, int least, int most) throws IllegalArgumentException, IllegalStateException {
        if (!isName(name) || least < -FARTHEST || least > FARTHEST || most < least || most > FARTHEST) {
            throw new IllegalArgumentException();
        }
        int added = widgets.add(name - 'a', least, most);
        if (added == NONE) {
            throw new IllegalStateException();
        }
        weaveAnew();
        runIfAtOnce();
        return added;
    }

    /**
     * Binds two widgets, both ways, or not any more.
     *
     * @param widget its number
     * @param other another one
     * @return whether they are bound then
     * @throws IndexOutOfBoundsException if there is no such widget, of either
     * @throws IllegalArgumentException if both are the same
     */
    public boolean bind(int widget, int other) throws IndexOutOfBoundsException, IllegalArgumentException {
        if (!widgets.exists(widget) || !widgets.exists(other)) {
            throw new IndexOutOfBoundsException();
        }
        if (widget == other) {
            throw new IllegalArgumentException();
        }
        return widgets.tie(widget, other);
    }

    /**
     * Turns a widget.
     *
     * @param widget its number
     * @param number from its least to its greatest
     * @return what it shows, until the next tick
     * @throws IndexOutOfBoundsException if there is no such widget
     * @throws IllegalArgumentException if number is out of its range
     */
    public int turn(int widget, int number) throws IndexOutOfBoundsException, IllegalArgumentException {
        if (!widgets.exists(widget)) {
            throw new IndexOutOfBoundsException();
        }
        if (widgets.held(widget, number) != number) {
            throw new IllegalArgumentException();
        }
        widgets.set(widget, number);
        restorable = false;
        return widgets.shown[widget];
    }

    /**
     * Lets a tick come.
     *
     * @return the time then
     */
    public int tick() {
        source.time++;
        widgets.showTurned();
        restorable = false;
        runIfAtOnce();
        return source.time;
    }

    /**
     * Returns what a widget shows.
     *
     * @param widget its number
     * @return the number
     * @throws IndexOutOfBoundsException if there is no such widget
     */
    public int shows(int widget) throws IndexOutOfBoundsException {
        if (!widgets.exists(widget)) {
            throw new IndexOutOfBoundsException();
        }
        return widgets.shown[widget];
    }

    // ---- running

    /**
     * Runs a cell.
     *
     * @param cell its number
     * @return 0 if it was run, without an error or with one, 1 if it was found again, NONE if something that it needs
     *     has FAILED by that
     * @throws IndexOutOfBoundsException if there is no such cell
     * @throws IllegalStateException if it is TWICE, in a RING or BLOCKED
     */
    public int run(int cell) throws IndexOutOfBoundsException, IllegalStateException {
        if (!isCell(cell)) {
            throw new IndexOutOfBoundsException();
        }
        if (stateOf(cell) >= BLOCKED) {
            throw new IllegalStateException();
        }
        return runWithNeeds(cell);
    }

    /**
     * Makes a checkpoint, in place of the one before.
     *
     * @return of how many cells it keeps something
     */
    public int checkpoint() {
        judge();
        int kept = 0;
        for (int c = 0; c < cellCount; c++) {
            Cell cell = cells[c];
            cell.isSaved = states[c] == FRESH && !cell.text.has('?') && !cell.text.has('@')
                    && cell.gave.areNumbersAlone();
            if (cell.isSaved) {
                gather(c, false);
                cell.saved.take(cell.text, used, cell.gave);
                kept++;
            }
        }
        return kept;
    }

    /**
     * Kills the kernel.
     *
     * @return how many cells were FRESH
     */
    public int kill() {
        judge();
        freshAtKill = 0;
        failedAtKill = 0;
        for (int c = 0; c < cellCount; c++) {
            if (states[c] == FRESH) {
                freshAtKill |= 1 << c;
            } else if (states[c] == FAILED) {
                failedAtKill |= 1 << c;
            }
            cells[c].forget();
        }
        restorable = true;
        return Integer.bitCount(freshAtKill);
    }

    /**
     * Restores what was FRESH or FAILED when the kernel was killed.
     *
     * @return how many cells were run for that
     * @throws IllegalStateException if that is not possible
     */
    public int restore() throws IllegalStateException {
        if (!restorable) {
            throw new IllegalStateException();
        }
        int before = runCount;
        int waiting = freshAtKill | failedAtKill;
        for (int count = 0; count < MOST_CELLS; count++) {
            judge();
            int c = lowestReady(waiting);
            if (c == NONE) {
                break;
            }
            waiting &= ~(1 << c);
            runOne(c, true);
        }
        restorable = false;
        return runCount - before;
    }

    // ---- questions

    /**
     * Returns the state of a cell, without running anything.
     *
     * @param cell its number
     * @return FRESH to TWICE
     * @throws IndexOutOfBoundsException if there is no such cell
     */
    public int state(int cell) throws IndexOutOfBoundsException {
        if (!isCell(cell)) {
            throw new IndexOutOfBoundsException();
        }
        return stateOf(cell);
    }

    /**
     * Returns which cells and widgets a cell needs.
     *
     * @param cell its number
     * @return a set: bit k for the cell k, bit 16 and w, together, for the widget w
     * @throws IndexOutOfBoundsException if there is no such cell
     */
    public int needs(int cell) throws IndexOutOfBoundsException {
        if (!isCell(cell)) {
            throw new IndexOutOfBoundsException();
        }
        return web.needed[cell];
    }

    /**
     * Returns the ring of a cell: all cells that it needs, and that need it, directly or over others.
     *
     * @param cell its number
     * @return bit k for the cell k; 0 if it is in none
     * @throws IndexOutOfBoundsException if there is no such cell
     */
    public int ring(int cell) throws IndexOutOfBoundsException {
        if (!isCell(cell)) {
            throw new IndexOutOfBoundsException();
        }
        return web.ringOf(cell);
    }

    /**
     * Returns the result of a cell.
     *
     * @param cell its number
     * @param item NONE for the number, or how many items there are; otherwise 0 for the first item of a row
     * @return the number
     * @throws IndexOutOfBoundsException if there is no such cell
     * @throws IllegalStateException if it is not FRESH (then), has no result, or that has no such item
     */
    public int result(int cell, int item) throws IndexOutOfBoundsException, IllegalStateException {
        if (!isCell(cell)) {
            throw new IndexOutOfBoundsException();
        }
        if (isRunWhenAsked(cell)) {
            runWithNeeds(cell);
        }
        if (stateOf(cell) != FRESH || !cells[cell].gave.answers(RESULT, item)) {
            throw new IllegalStateException();
        }
        return cells[cell].gave.answer(RESULT, item);
    }

    /**
     * Returns the same, by running the plain program anew.
     *
     * @param cell its number
     * @param item as above
     * @return the number
     * @throws IndexOutOfBoundsException if there is no such cell
     * @throws IllegalStateException if it is not in that, is left out, ends with an error, has no result, or that has
     *     no such item
     */
    public int resultAnew(int cell, int item) throws IndexOutOfBoundsException, IllegalStateException {
        if (!isCell(cell)) {
            throw new IndexOutOfBoundsException();
        }
        int ended = runPlain();
        if (!has(ended, cell) || !cells[cell].gaveAnew.answers(RESULT, item)) {
            throw new IllegalStateException();
        }
        return cells[cell].gaveAnew.answer(RESULT, item);
    }

    /**
     * Returns a value, as the last cell leaves it that changes the name, or else the one cell or widget that defines
     * it.
     *
     * @param name a to z
     * @param item as above
     * @return the number
     * @throws IllegalArgumentException if name is out of its range
     * @throws IllegalStateException if none or several define it, also if cells change it, the cell is not FRESH
     *     (then), or the value has no such item
     */
    public int value(char name, int item) throws IllegalArgumentException, IllegalStateException {
        if (!isName(name)) {
            throw new IllegalArgumentException();
        }
        int place = name - 'a';
        int giver = web.lastGiver(place);
        if (isCell(giver) && isRunWhenAsked(giver)) {
            runWithNeeds(giver);
        }
        if (!hasValue(giver, place, item)) {
            throw new IllegalStateException();
        }
        return isCell(giver) ? cells[giver].gave.answer(place, item) : widgets.shownBy(giver - MOST_CELLS);
    }

    /**
     * Returns the error of a cell.
     *
     * @param cell its number
     * @return 100 times the error, and the place, together; 0 if it is not FAILED (then)
     * @throws IndexOutOfBoundsException if there is no such cell
     */
    public int error(int cell) throws IndexOutOfBoundsException {
        if (!isCell(cell)) {
            throw new IndexOutOfBoundsException();
        }
        if (isRunWhenAsked(cell)) {
            runWithNeeds(cell);
        }
        return stateOf(cell) == FAILED ? 100 * cells[cell].error + cells[cell].errorStart : 0;
    }

    /**
     * Returns a cell of the plain program.
     *
     * @param place 0 for the first one
     * @return the cell; NONE if there are not so many
     * @throws IndexOutOfBoundsException if place is below 0
     */
    public int order(int place) throws IndexOutOfBoundsException {
        if (place < 0) {
            throw new IndexOutOfBoundsException();
        }
        return place < web.orderedCount ? web.ordered[place] : NONE;
    }

    /**
     * Returns how often a cell was run so far, all cells together.
     *
     * @return the number
     */
    public int runs() {
        return runCount;
    }

    /**
     * Returns how often a cell was found again so far, all together.
     *
     * @return the number
     */
    public int found() {
        return foundCount;
    }

    // ---- ranges and sets

    private static boolean isHand(int hand) {
        return hand >= 0 && hand < HANDS;
    }

    private static boolean isLanguage(int language) {
        return language == EXPRESSIONS || language == QUERIES || language == RULES;
    }

    private static boolean isName(int sign) {
        return sign >= 'a' && sign <= 'z';
    }

    private static boolean isDigit(int sign) {
        return sign >= '0' && sign <= '9';
    }

    private boolean isCell(int cell) {
        return cell >= 0 && cell < cellCount;
    }

    private static boolean has(int set, int element) {
        return element >= 0 && (set >> element & 1) != 0;
    }

    /** Returns the greatest element of a set of cells and widgets; NONE if it is empty. */
    private static int greatest(int set) {
        for (int element = MOST_CELLS + MOST_WIDGETS - 1; element >= 0; element--) {
            if (has(set, element)) {
                return element;
            }
        }
        return NONE;
    }

    // ---- how calls change the notebook

    /** Gives a cell what a hand has typed, as it was read, if that has no fault; what was typed is gone in any case. */
    private boolean takeTyped(int hand, Cell cell, int fault) {
        if (fault == NONE) {
            cell.text.take(hands[hand]);
            cell.code.take(scratch);
            cell.hasRun = false;
        }
        hands[hand].clear();
        return fault == NONE;
    }

    private void weaveAnew() {
        web.weave(cells, cellCount, widgets);
        restorable = false;
    }

    private void runIfAtOnce() {
        if (modeNow == AT_ONCE) {
            runStale(ALL_CELLS);
        }
    }

    // ---- states

    private int stateOf(int cell) {
        judge();
        return states[cell];
    }

    /** Finds the states of all cells, each behind those that it needs. */
    private void judge() {
        for (int c = 0; c < cellCount; c++) {
            states[c] = has(web.twice, c) ? TWICE : has(web.ringed, c) ? RING : BLOCKED;
        }
        for (int i = 0; i < web.orderedCount; i++) {
            int c = web.ordered[i];
            states[c] = judgeByNeeds(c);
        }
    }

    private int judgeByNeeds(int c) {
        int needed = web.needed[c];
        boolean isStale = false;
        for (int k = 0; k < cellCount; k++) {
            if (has(needed, k)) {
                if (states[k] >= FAILED) {
                    return BLOCKED;
                }
                isStale = isStale || states[k] == STALE || cells[k].ranAt > cells[c].ranAt;
            }
        }
        if (isStale || !cells[c].isAsThen(needed, widgets)) {
            return STALE;
        }
        return cells[c].error == 0 ? FRESH : FAILED;
    }

    private boolean isRunWhenAsked(int cell) {
        return modeNow == ASKED && stateOf(cell) == STALE;
    }

    /** Returns the lowest STALE cell of a set for which all that it needs is FRESH; NONE without one. */
    private int lowestReady(int among) {
        for (int c = 0; c < cellCount; c++) {
            if (has(among, c) && states[c] == STALE && areNeedsFresh(c)) {
                return c;
            }
        }
        return NONE;
    }

    private boolean areNeedsFresh(int c) {
        for (int k = 0; k < cellCount; k++) {
            if (has(web.needed[c], k) && states[k] != FRESH) {
                return false;
            }
        }
        return true;
    }

    // ---- how cells are run

    /** Runs the STALE cells of a set, the lowest first for which all that it needs is FRESH, until there are none. */
    private void runStale(int among) {
        for (int count = 0; count < MOST_CELLS; count++) {
            judge();
            int c = lowestReady(among);
            if (c == NONE) {
                return;
            }
            runOne(c, false);
        }
    }

    /** Runs what a cell needs and the cell; returns what run is to answer. */
    private int runWithNeeds(int cell) {
        runStale(web.reached[cell] & ~(1 << cell));
        if (stateOf(cell) == BLOCKED) {
            return NONE;
        }
        return runOne(cell, false);
    }

    /** Runs a cell, or lets it have what was kept; returns 0 or 1. */
    private int runOne(int c, boolean restoring) {
        Cell cell = cells[c];
        gather(c, false);
        Kept kept = restoring ? keptFor(c) : cell.recall(used);
        if (kept != null) {
            cell.gave.takeAll(kept.gave);
            cell.error = 0;
            foundCount += restoring ? 0 : 1;
        } else {
            source.begin(cell.draws, cell.text, restoring, true);
            cell.error = machine.execute(cell.code, used, source);
            cell.errorStart = machine.errorStart;
            runCount++;
            machine.handOver(cell.code, cell.gave);
            if (cell.error == 0) {
                cell.remember(used);
            }
        }
        moment++;
        cell.settle(moment, web.needed[c], widgets);
        restorable = false;
        return kept != null ? 1 : 0;
    }

    /** Returns what the checkpoint keeps of a cell that was FRESH, by its text and the values that it uses now. */
    private Kept keptFor(int c) {
        Cell cell = cells[c];
        boolean isKept = has(freshAtKill, c) && cell.isSaved && cell.saved.isOf(cell.text, used);
        return isKept ? cell.saved : null;
    }

    /** Gathers the values of the names that a cell uses, as cells have left them, now or in the plain program. */
    private void gather(int c, boolean anew) {
        int names = cells[c].code.uses;
        used.clear();
        for (int name = 0; name < NAMES; name++) {
            int giver = has(names, name) ? greatest(web.giversOf(c, name)) : NONE;
            if (isCell(giver)) {
                used.copy(name, anew ? cells[giver].gaveAnew : cells[giver].gave, name);
            } else if (giver != NONE) {
                used.putNumber(name, widgets.shownBy(giver - MOST_CELLS));
            }
        }
    }

    /** Runs the plain program anew; returns the cells that ended without an error. */
    private int runPlain() {
        int ended = 0;
        for (int i = 0; i < web.orderedCount; i++) {
            int c = web.ordered[i];
            boolean isBehindError = (web.needed[c] & ALL_CELLS & ~ended) != 0;
            if (!isBehindError) {
                gather(c, true);
                source.begin(cells[c].draws, cells[c].text, true, false);
                if (machine.execute(cells[c].code, used, source) == 0) {
                    machine.handOver(cells[c].code, cells[c].gaveAnew);
                    ended |= 1 << c;
                }
            }
        }
        return ended;
    }

    /** Tells whether what leaves a name, a cell or a widget, has a value for it, with such an item. */
    private boolean hasValue(int giver, int place, int item) {
        if (isCell(giver)) {
            return stateOf(giver) == FRESH && cells[giver].gave.answers(place, item);
        }
        return giver != NONE && item == NONE;
    }

    /** Characters, as a hand has typed them or as a cell has them. */
    private static final class Text {
        private final char[] signs = new char[MOST_SIGNS];
        private int length;

        boolean add(char sign) {
            if (length >= MOST_SIGNS) {
                return false;
            }
            signs[length] = sign;
            length++;
            return true;
        }

        void clear() {
            length = 0;
        }

        /** Returns the character at a place; NONE behind the last one. */
        int at(int place) {
            return place >= 0 && place < length ? signs[place] : NONE;
        }

        boolean has(char sign) {
            for (int i = 0; i < length; i++) {
                if (signs[i] == sign) {
                    return true;
                }
            }
            return false;
        }

        boolean isSame(Text other) {
            if (length != other.length) {
                return false;
            }
            for (int i = 0; i < length; i++) {
                if (signs[i] != other.signs[i]) {
                    return false;
                }
            }
            return true;
        }

        void take(Text other) {
            for (int i = 0; i < other.length; i++) {
                signs[i] = other.signs[i];
            }
            length = other.length;
        }
    }

    /** A value for each name, and one for the result; also a stack, as 40 characters need no more places for that. */
    private static final class Values {
        private final int[] shapes = new int[PLACES];
        private final int[] items = new int[PLACES * MOST_ITEMS];

        /** Returns NOTHING, NUMBER, or ROW and the number of items, together. */
        int shapeOf(int place) {
            return place >= 0 && place < PLACES ? shapes[place] : NOTHING;
        }

        boolean isNumber(int place) {
            return place >= 0 && place < PLACES && shapes[place] == NUMBER;
        }

        int itemCount(int place) {
            return place >= 0 && place < PLACES && shapes[place] > ROW ? shapes[place] - ROW : 0;
        }

        /** Returns an item of a row; the item 0 of a number is the number. */
        int itemOf(int place, int item) {
            boolean isThere = place >= 0 && place < PLACES && item >= 0 && item < MOST_ITEMS;
            return isThere ? items[place * MOST_ITEMS + item] : 0;
        }

        void clear() {
            for (int place = 0; place < PLACES; place++) {
                shapes[place] = NOTHING;
            }
        }

        void putNumber(int place, int number) {
            if (place >= 0 && place < PLACES) {
                shapes[place] = NUMBER;
                items[place * MOST_ITEMS] = number;
            }
        }

        /** Puts a row without items; what was there can still be read while no later item is added. */
        void putRow(int place) {
            if (place >= 0 && place < PLACES) {
                shapes[place] = ROW;
            }
        }

        void addItem(int place, int number) {
            int item = place >= 0 && place < PLACES ? shapes[place] - ROW : NONE;
            if (item >= 0 && item < MOST_ITEMS) {
                items[place * MOST_ITEMS + item] = number;
                shapes[place]++;
            }
        }

        void copy(int place, Values from, int fromPlace) {
            if (place >= 0 && place < PLACES && fromPlace >= 0 && fromPlace < PLACES) {
                shapes[place] = from.shapes[fromPlace];
                for (int item = 0; item < MOST_ITEMS; item++) {
                    items[place * MOST_ITEMS + item] = from.items[fromPlace * MOST_ITEMS + item];
                }
            }
        }

        void takeAll(Values from) {
            System.arraycopy(from.shapes, 0, shapes, 0, PLACES);
            System.arraycopy(from.items, 0, items, 0, PLACES * MOST_ITEMS);
        }

        boolean areSame(Values other) {
            for (int place = 0; place < PLACES; place++) {
                if (shapes[place] != other.shapes[place]) {
                    return false;
                }
                int count = isNumber(place) ? 1 : itemCount(place);
                for (int item = 0; item < count; item++) {
                    if (itemOf(place, item) != other.itemOf(place, item)) {
                        return false;
                    }
                }
            }
            return true;
        }

        boolean areNumbersAlone() {
            for (int place = 0; place < PLACES; place++) {
                if (shapes[place] >= ROW) {
                    return false;
                }
            }
            return true;
        }

        /** Tells whether a call that asks for an item of a place, or for NONE, has an answer. */
        boolean answers(int place, int item) {
            if (item == NONE) {
                return shapeOf(place) != NOTHING;
            }
            return item >= 0 && item < itemCount(place);
        }

        int answer(int place, int item) {
            if (item == NONE && !isNumber(place)) {
                return itemCount(place);
            }
            return itemOf(place, item == NONE ? 0 : item);
        }
    }

    /**
     * What a text was read to: its steps, and the names that it defines, changes and uses.
     *
     * In RULES a step is a clause: its kind is the head, its detail the set of names behind the colon.
     */
    private static final class Code {
        private final int[] kinds = new int[MOST_STEPS];
        private final int[] details = new int[MOST_STEPS];
        private final int[] starts = new int[MOST_STEPS];
        private int count;
        private int language;
        private int defines;
        private int changes;
        private int uses;

        void clear(int languageThen) {
            count = 0;
            language = languageThen;
            defines = 0;
            changes = 0;
            uses = 0;
        }

        void take(Code other) {
            System.arraycopy(other.kinds, 0, kinds, 0, MOST_STEPS);
            System.arraycopy(other.details, 0, details, 0, MOST_STEPS);
            System.arraycopy(other.starts, 0, starts, 0, MOST_STEPS);
            count = other.count;
            language = other.language;
            defines = other.defines;
            changes = other.changes;
            uses = other.uses;
        }

        void add(int kind, int detail, int start) {
            if (count < MOST_STEPS) {
                kinds[count] = kind;
                details[count] = detail;
                starts[count] = start;
                count++;
            }
        }
    }

    /** Reads texts. Each part answers whether it could go on to its end; where it could not, place stands still. */
    private static final class Reader {
        private Text text = new Text();
        private Code code = new Code();
        private int place;
        private int start;
        private int known;

        /** Reads a text into a code; returns the place of its fault, or NONE. */
        int read(Text from, int language, Code into) {
            text = from;
            code = into;
            code.clear(language);
            place = 0;
            start = 0;
            known = 0;
            boolean isRead = language == QUERIES ? readQuery() : language == RULES ? readClauses() : readStatements();
            return isRead && place >= text.length ? NONE : place;
        }

        private boolean skip(char sign) {
            if (text.at(place) != sign) {
                return false;
            }
            place++;
            return true;
        }

        /** Reads a name; returns 0 for a, or NONE if there is none. */
        private int readName() {
            int sign = text.at(place);
            if (!isName(sign)) {
                return NONE;
            }
            place++;
            return sign - 'a';
        }

        /** Reads as many digits as there are, up to 6; returns the number, or NONE without a digit. */
        private int readDigits() {
            int number = NONE;
            for (int count = 0; count < MOST_DIGITS && isDigit(text.at(place)); count++) {
                number = Math.max(number, 0) * 10 + text.at(place) - '0';
                place++;
            }
            return number;
        }

        private boolean readStatements() {
            for (int count = 0; count < MOST_SIGNS; count++) {
                if (!readStatement()) {
                    return false;
                }
                if (!skip(';')) {
                    return true;
                }
            }
            return false;
        }

        private boolean readStatement() {
            start = place;
            int sign = isName(text.at(place)) ? text.at(place + 1) : NONE;
            if (sign != '=' && sign != '!') {
                boolean isRead = readExpression(0);
                code.add(GIVE_RESULT, 0, start);
                return isRead;
            }
            int name = readName();
            place++;
            if (sign == '!') {
                code.add(DEMAND_VALUE, name, start);
            }
            if (!readExpression(0)) {
                return false;
            }
            if (sign == '=') {
                code.add(DEFINE, name, start);
                code.defines |= 1 << name;
            } else {
                code.add(CHANGE, name, start);
                noteChange(name);
            }
            known |= 1 << name;
            return true;
        }

        /** A name that the cell itself defined ahead is its own: to change it then changes nobody else's. */
        private void noteChange(int name) {
            if (!has(code.defines, name)) {
                code.changes |= 1 << name;
                code.uses |= 1 << name;
            }
        }

        private boolean readExpression(int depth) {
            if (!readTerm(depth)) {
                return false;
            }
            for (int count = 0; count < MOST_SIGNS; count++) {
                int kind = text.at(place) == '+' ? ADD : text.at(place) == '-' ? SUBTRACT : NONE;
                if (kind == NONE) {
                    return true;
                }
                place++;
                if (!readTerm(depth)) {
                    return false;
                }
                code.add(kind, 0, start);
            }
            return true;
        }

        private boolean readTerm(int depth) {
            if (!readFactor(depth)) {
                return false;
            }
            for (int count = 0; count < MOST_SIGNS && skip('*'); count++) {
                if (!readFactor(depth)) {
                    return false;
                }
                code.add(MULTIPLY, 0, start);
            }
            return true;
        }

        private boolean readFactor(int depth) {
            if (!readPart(depth)) {
                return false;
            }
            for (int count = 0; count < MOST_SIGNS && skip('.'); count++) {
                if (!isDigit(text.at(place))) {
                    return false;
                }
                code.add(PICK_ITEM, text.at(place) - '0', start);
                place++;
            }
            return true;
        }

        /** Reads a part; the depth stays in its limit, as each level has a character of its own. */
        private boolean readPart(int depth) {
            if (depth > MOST_SIGNS) {
                return false;
            }
            if (skip('#')) {
                boolean isRead = readFactor(depth + 1);
                code.add(COUNT_ITEMS, 0, start);
                return isRead;
            }
            if (skip('(')) {
                return readExpression(depth + 1) && skip(')');
            }
            if (skip('[')) {
                return readRow(depth + 1);
            }
            return readSimplePart();
        }

        private boolean readSimplePart() {
            if (isDigit(text.at(place))) {
                code.add(PUT_NUMBER, readDigits(), start);
                return true;
            }
            if (skip('?')) {
                code.add(PUT_CHANCE, 0, start);
                return true;
            }
            if (skip('@')) {
                code.add(PUT_TIME, 0, start);
                return true;
            }
            int name = readName();
            if (name == NONE) {
                return false;
            }
            code.add(PUT_NAME, name, start);
            code.uses |= has(known, name) ? 0 : 1 << name;
            return true;
        }

        private boolean readRow(int depth) {
            for (int count = 1; count <= MOST_ITEMS; count++) {
                if (!readExpression(depth)) {
                    return false;
                }
                code.add(DEMAND_NUMBER, 0, start);
                if (skip(']')) {
                    code.add(MAKE_ROW, count, start);
                    return true;
                }
                if (count == MOST_ITEMS || !skip(',')) {
                    return false;
                }
            }
            return false;
        }

        private boolean readQuery() {
            int defined = readName();
            if (defined == NONE || !skip('=')) {
                return false;
            }
            int asked = readName();
            if (asked == NONE) {
                return false;
            }
            code.add(PUT_NAME, asked, start);
            code.uses = 1 << asked;
            int comparison = skip('<') ? KEEP_LESS : skip('>') ? KEEP_GREATER : skip('=') ? KEEP_SAME : NONE;
            if (comparison == NONE) {
                return false;
            }
            boolean isNegative = skip('-');
            int number = readDigits();
            if (number == NONE) {
                return false;
            }
            code.add(comparison, isNegative ? -number : number, start);
            if (!readSummary()) {
                return false;
            }
            code.add(DEFINE, defined, start);
            code.add(PUT_NAME, defined, start);
            code.add(GIVE_RESULT, 0, start);
            code.defines = 1 << defined;
            return true;
        }

        private boolean readSummary() {
            if (skip('s')) {
                code.add(SUM_ITEMS, 0, start);
                return true;
            }
            if (skip('c')) {
                code.add(COUNT_ITEMS, 0, start);
                return true;
            }
            if (skip('m')) {
                code.add(FIND_GREATEST, 0, start);
                return true;
            }
            return skip('l');
        }

        private boolean readClauses() {
            int named = 0;
            for (int count = 0; count < MOST_SIGNS; count++) {
                start = place;
                int head = readName();
                if (head == NONE) {
                    return false;
                }
                int behind = skip(':') ? readNames() : 0;
                if (behind == NONE) {
                    return false;
                }
                code.add(head, behind, start);
                named |= behind;
                code.defines |= 1 << head;
                if (!skip(';')) {
                    code.uses = named & ~code.defines;
                    return true;
                }
            }
            return false;
        }

        /** Reads 1 to 5 names; returns their set, or NONE if it could not go on. */
        private int readNames() {
            int names = 0;
            for (int count = 0; count < MOST_BEHIND_COLON; count++) {
                int name = readName();
                if (name == NONE) {
                    return NONE;
                }
                names |= 1 << name;
                if (count + 1 == MOST_BEHIND_COLON || !skip(',')) {
                    return names;
                }
            }
            return names;
        }
    }

    /** The chance and time that the last run of a cell drew, in their order, and the text that it had. */
    private static final class Draws {
        private final Text text = new Text();
        private final int[] numbers = new int[MOST_SIGNS];
        private int count;
    }

    /** Where chance and time come from. */
    private static final class Source {
        private int chance = 1;
        private int time;
        private Draws draws = new Draws();
        private int place;
        private int told;
        private boolean records;

        /** Begins a run: told again are the draws of the same text; more are drawn if they are recorded, else 0. */
        void begin(Draws of, Text text, boolean again, boolean recorded) {
            told = again && of.text.isSame(text) ? of.count : 0;
            draws = of;
            place = 0;
            records = recorded;
            if (recorded) {
                of.text.take(text);
                of.count = 0;
            }
        }

        int draw(boolean isTime) {
            if (place >= MOST_SIGNS) {
                return 0;
            }
            int number = 0;
            if (place < told) {
                number = draws.numbers[place];
            } else if (records) {
                chance = isTime ? chance : (75 * chance + 74) % 65537;
                number = isTime ? time : chance;
            }
            if (records) {
                draws.numbers[place] = number;
                draws.count = place + 1;
            }
            place++;
            return number;
        }
    }

    /** Runs codes. */
    private static final class Machine {
        private final Values names = new Values();
        private final Values stack = new Values();
        private int height;
        private int errorStart;
        private Source source = new Source();

        /** Runs a code; returns its error, or 0. */
        int execute(Code code, Values used, Source from) {
            names.takeAll(used);
            height = 0;
            errorStart = 0;
            source = from;
            if (code.language == RULES) {
                return holdHeads(code);
            }
            for (int i = 0; i < code.count; i++) {
                int error = takeStep(code.kinds[i], code.details[i]);
                if (error != 0) {
                    errorStart = code.starts[i];
                    return error;
                }
            }
            return 0;
        }

        /** Hands over what the run gave: the names that the code defines or changes, and the result. */
        void handOver(Code code, Values into) {
            into.clear();
            for (int name = 0; name < NAMES; name++) {
                if (has(code.defines | code.changes, name)) {
                    into.copy(name, names, name);
                }
            }
            into.copy(RESULT, names, RESULT);
        }

        private int takeStep(int kind, int detail) {
            switch (kind) {
                case PUT_NUMBER:
                    return push(detail);
                case PUT_NAME:
                    return pushName(detail);
                case PUT_CHANCE:
                    return push(source.draw(false));
                case PUT_TIME:
                    return push(source.draw(true));
                case ADD:
                case SUBTRACT:
                case MULTIPLY:
                    return combine(kind);
                case PICK_ITEM:
                    return pickItem(detail);
                case COUNT_ITEMS:
                    return countItems();
                case DEMAND_NUMBER:
                    return stack.isNumber(height - 1) ? 0 : KIND;
                case MAKE_ROW:
                    return makeRow(detail);
                case DEMAND_VALUE:
                    return names.shapeOf(detail) == NOTHING ? UNTOLD : 0;
                case DEFINE:
                    return pop(detail);
                case CHANGE:
                    return change(detail);
                case GIVE_RESULT:
                    return pop(RESULT);
                case SUM_ITEMS:
                case FIND_GREATEST:
                    return sumUp(kind);
                default:
                    return keepItems(kind, detail);
            }
        }

        private int push(int number) {
            stack.putNumber(height, number);
            height++;
            return 0;
        }

        private int pushName(int name) {
            if (names.shapeOf(name) == NOTHING) {
                return UNTOLD;
            }
            stack.copy(height, names, name);
            height++;
            return 0;
        }

        private int pop(int place) {
            height--;
            names.copy(place, stack, height);
            return 0;
        }

        private int combine(int kind) {
            int left = height - 2;
            int right = height - 1;
            if (!stack.isNumber(left) || !stack.isNumber(right)) {
                return KIND;
            }
            int a = stack.itemOf(left, 0);
            int b = stack.itemOf(right, 0);
            stack.putNumber(left, kind == ADD ? a + b : kind == SUBTRACT ? a - b : a * b);
            height = right;
            return 0;
        }

        private int change(int name) {
            int by = height - 1;
            if (!names.isNumber(name) || !stack.isNumber(by)) {
                return KIND;
            }
            names.putNumber(name, names.itemOf(name, 0) + stack.itemOf(by, 0));
            height = by;
            return 0;
        }

        private int pickItem(int item) {
            int top = height - 1;
            if (stack.shapeOf(top) < ROW) {
                return KIND;
            }
            if (item >= stack.itemCount(top)) {
                return ITEM;
            }
            stack.putNumber(top, stack.itemOf(top, item));
            return 0;
        }

        private int countItems() {
            int top = height - 1;
            if (stack.shapeOf(top) < ROW) {
                return KIND;
            }
            stack.putNumber(top, stack.itemCount(top));
            return 0;
        }

        /** Makes a row of numbers on top of the stack, in the place of the first one. */
        private int makeRow(int count) {
            int first = height - count;
            stack.putRow(first);
            for (int i = 0; i < count; i++) {
                stack.addItem(first, stack.itemOf(first + i, 0));
            }
            height = first + 1;
            return 0;
        }

        /** Keeps the items of a row, or of a number itself, that compare with a number as asked. */
        private int keepItems(int kind, int number) {
            int top = height - 1;
            int count = stack.isNumber(top) ? 1 : stack.itemCount(top);
            stack.putRow(top);
            for (int i = 0; i < count; i++) {
                int item = stack.itemOf(top, i);
                if (isKept(kind, item, number)) {
                    stack.addItem(top, item);
                }
            }
            return 0;
        }

        private static boolean isKept(int kind, int item, int number) {
            if (kind == KEEP_LESS) {
                return item < number;
            }
            return kind == KEEP_GREATER ? item > number : item == number;
        }

        private int sumUp(int kind) {
            int top = height - 1;
            int sum = 0;
            int most = stack.itemOf(top, 0);
            for (int i = 0; i < stack.itemCount(top); i++) {
                sum += stack.itemOf(top, i);
                most = Math.max(most, stack.itemOf(top, i));
            }
            if (stack.itemCount(top) == 0) {
                most = 0;
            }
            stack.putNumber(top, kind == SUM_ITEMS ? sum : most);
            return 0;
        }

        private int holdHeads(Code code) {
            for (int i = 0; i < code.count; i++) {
                if (isUntold(code.details[i] & code.uses)) {
                    errorStart = code.starts[i];
                    return UNTOLD;
                }
            }
            int holding = holdMore(code, holdingAmong(code.uses));
            for (int name = 0; name < NAMES; name++) {
                if (has(code.defines, name)) {
                    names.putNumber(name, has(holding, name) ? 1 : 0);
                }
            }
            names.putNumber(RESULT, Integer.bitCount(holding & code.defines));
            return 0;
        }

        private boolean isUntold(int among) {
            for (int name = 0; name < NAMES; name++) {
                if (has(among, name) && names.shapeOf(name) == NOTHING) {
                    return true;
                }
            }
            return false;
        }

        private int holdingAmong(int among) {
            int holding = 0;
            for (int name = 0; name < NAMES; name++) {
                boolean holds = names.isNumber(name) ? names.itemOf(name, 0) != 0 : names.itemCount(name) > 0;
                holding |= has(among, name) && holds ? 1 << name : 0;
            }
            return holding;
        }

        /** Lets heads hold by clauses, from none: as many rounds as clauses reach the least holding. */
        private static int holdMore(Code code, int outside) {
            int holding = outside;
            for (int round = 0; round < code.count; round++) {
                for (int i = 0; i < code.count; i++) {
                    if ((code.details[i] & ~holding) == 0) {
                        holding |= 1 << code.kinds[i];
                    }
                }
            }
            return holding;
        }
    }

    /** What a run or a checkpoint keeps of a cell: what it gave, for a text and the values that it used. */
    private static final class Kept {
        private final Text text = new Text();
        private final Values used = new Values();
        private final Values gave = new Values();

        void take(Text ofText, Values ofUsed, Values ofGave) {
            text.take(ofText);
            used.takeAll(ofUsed);
            gave.takeAll(ofGave);
        }

        boolean isOf(Text ofText, Values ofUsed) {
            return text.isSame(ofText) && used.areSame(ofUsed);
        }
    }

    /** A cell: its text, and how it was run last. */
    private static final class Cell {
        private final Text text = new Text();
        private final Code code = new Code();
        private final Values gave = new Values();
        private final Values gaveAnew = new Values();
        private final Draws draws = new Draws();
        private final Kept saved = new Kept();
        private final Kept[] past = new Kept[MOST_PAST];
        private final int[] shownThen = new int[MOST_WIDGETS];
        private int pastCount;
        private int pastOldest;
        private int edits;
        private int error;
        private int errorStart;
        private int neededThen;
        private int ranAt;
        private boolean hasRun;
        private boolean isSaved;

        Cell() {
            for (int i = 0; i < MOST_PAST; i++) {
                past[i] = new Kept();
            }
        }

        private boolean isRepeatable() {
            return !text.has('?') && !text.has('@') && !text.has('!');
        }

        /** Returns a past run of this text with these values, or null. */
        Kept recall(Values used) {
            for (int i = 0; i < pastCount && isRepeatable(); i++) {
                if (past[i].isOf(text, used)) {
                    return past[i];
                }
            }
            return null;
        }

        /** Keeps a run that ended without an error; a fifth one takes the place of the first. */
        void remember(Values used) {
            if (isRepeatable()) {
                past[pastOldest].take(text, used, gave);
                pastOldest = (pastOldest + 1) % MOST_PAST;
                pastCount = Math.min(pastCount + 1, MOST_PAST);
            }
        }

        /** Notes what stood when the cell was run or found again. */
        void settle(int moment, int needed, Widgets widgets) {
            hasRun = true;
            ranAt = moment;
            neededThen = needed;
            for (int w = 0; w < MOST_WIDGETS; w++) {
                shownThen[w] = widgets.shownBy(w);
            }
        }

        /** Tells whether text, needs and widgets are as when the cell was run or found again. */
        boolean isAsThen(int needed, Widgets widgets) {
            if (!hasRun || needed != neededThen) {
                return false;
            }
            for (int w = 0; w < MOST_WIDGETS; w++) {
                if (has(needed, MOST_CELLS + w) && widgets.shownBy(w) != shownThen[w]) {
                    return false;
                }
            }
            return true;
        }

        void forget() {
            hasRun = false;
            pastCount = 0;
            pastOldest = 0;
        }
    }

    /** The widgets. */
    private static final class Widgets {
        private final int[] names = new int[MOST_WIDGETS];
        private final int[] least = new int[MOST_WIDGETS];
        private final int[] most = new int[MOST_WIDGETS];
        private final int[] shown = new int[MOST_WIDGETS];
        private final int[] turnedTo = new int[MOST_WIDGETS];
        private final int[] tied = new int[MOST_WIDGETS];
        private int turned;
        private int count;

        boolean exists(int widget) {
            return widget >= 0 && widget < count;
        }

        /** Adds a widget; returns its number, or NONE if there is no room or one has the name. */
        int add(int name, int from, int to) {
            if (count >= MOST_WIDGETS) {
                return NONE;
            }
            for (int w = 0; w < count; w++) {
                if (names[w] == name) {
                    return NONE;
                }
            }
            names[count] = name;
            least[count] = from;
            most[count] = to;
            shown[count] = from;
            count++;
            return count - 1;
        }

        boolean tie(int widget, int other) {
            if (!exists(widget) || !exists(other)) {
                return false;
            }
            tied[widget] ^= 1 << other;
            tied[other] ^= 1 << widget;
            return has(tied[widget], other);
        }

        /** Returns a number, held within the range of a widget. */
        int held(int widget, int number) {
            return exists(widget) ? Math.max(least[widget], Math.min(most[widget], number)) : 0;
        }

        void set(int widget, int number) {
            if (exists(widget)) {
                turnedTo[widget] = number;
                turned |= 1 << widget;
            }
        }

        int shownBy(int widget) {
            return exists(widget) ? shown[widget] : 0;
        }

        /** Lets all that were turned show that, and then those that are bound to them. */
        void showTurned() {
            int anew = turned;
            for (int w = 0; w < count; w++) {
                if (has(turned, w)) {
                    shown[w] = turnedTo[w];
                }
            }
            for (int w = 0; w < count; w++) {
                if (has(turned, w)) {
                    anew |= spread(w, anew);
                }
            }
            turned = 0;
        }

        /** Lets what is bound to a turned widget show its number, over those that showed nothing anew yet. */
        private int spread(int from, int anew) {
            int reached = 1 << from;
            for (int round = 0; round < count; round++) {
                for (int w = 0; w < count; w++) {
                    boolean isNew = !has(anew | reached, w);
                    if (isNew && (tied[w] & reached) != 0) {
                        reached |= 1 << w;
                        shown[w] = held(w, turnedTo[from]);
                    }
                }
            }
            return reached;
        }
    }

    /** Which cell needs which, as that follows from the texts and the widgets. */
    private static final class Web {
        private final int[] definers = new int[NAMES];
        private final int[] changers = new int[NAMES];
        private final int[] needed = new int[MOST_CELLS];
        private final int[] reached = new int[MOST_CELLS];
        private final int[] ordered = new int[MOST_CELLS];
        private int orderedCount;
        private int twice;
        private int ringed;
        private int count;

        void weave(Cell[] cells, int cellCount, Widgets widgets) {
            count = Math.min(cellCount, MOST_CELLS);
            twice = 0;
            for (int name = 0; name < NAMES; name++) {
                noteName(name, cells, widgets);
            }
            for (int c = 0; c < count; c++) {
                needed[c] = needsOf(c, cells[c].code.uses);
                reached[c] = needed[c] & ALL_CELLS;
            }
            reachOver();
            putInOrder();
        }

        /** Notes which cells and widgets define a name, and which cells change it. */
        private void noteName(int name, Cell[] cells, Widgets widgets) {
            definers[name] = 0;
            changers[name] = 0;
            for (int c = 0; c < count; c++) {
                definers[name] |= has(cells[c].code.defines, name) ? 1 << c : 0;
                changers[name] |= has(cells[c].code.changes, name) ? 1 << c : 0;
            }
            for (int w = 0; w < widgets.count; w++) {
                definers[name] |= widgets.names[w] == name ? 1 << (MOST_CELLS + w) : 0;
            }
            if (Integer.bitCount(definers[name]) > 1) {
                twice |= definers[name] & ALL_CELLS;
            }
        }

        private int needsOf(int c, int uses) {
            int needs = 0;
            for (int name = 0; name < NAMES; name++) {
                needs |= has(uses, name) ? giversOf(c, name) : 0;
            }
            return needs;
        }

        /** Returns by which cells or widgets a cell has a name: one, or more if it is defined twice. */
        int giversOf(int c, int name) {
            if (name < 0 || name >= NAMES) {
                return 0;
            }
            int ahead = has(changers[name], c) ? (1 << c) - 1 : ALL_CELLS;
            int last = greatest(changers[name] & ahead);
            return last != NONE ? 1 << last : definers[name] & ~(1 << c);
        }

        /** Returns which cell or widget leaves a name as it is in the end; NONE unless one defines it. */
        int lastGiver(int name) {
            if (name < 0 || name >= NAMES || Integer.bitCount(definers[name]) != 1) {
                return NONE;
            }
            int last = greatest(changers[name]);
            return last != NONE ? last : greatest(definers[name]);
        }

        private void reachOver() {
            for (int over = 0; over < count; over++) {
                for (int c = 0; c < count; c++) {
                    reached[c] |= has(reached[c], over) ? reached[over] : 0;
                }
            }
            ringed = 0;
            for (int c = 0; c < count; c++) {
                ringed |= has(reached[c], c) ? 1 << c : 0;
            }
        }

        int ringOf(int cell) {
            int ring = 0;
            for (int c = 0; c < count; c++) {
                boolean isBothWays = has(reached[cell], c) && has(reached[c], cell);
                ring |= isBothWays ? 1 << c : 0;
            }
            return ring;
        }

        /** Puts the cells that are not TWICE, in a RING or behind such into the order of the plain program. */
        private void putInOrder() {
            int ahead = 0;
            orderedCount = 0;
            for (int place = 0; place < count; place++) {
                int next = lowestNext(ahead);
                if (next == NONE) {
                    return;
                }
                ordered[orderedCount] = next;
                orderedCount++;
                ahead |= 1 << next;
            }
        }

        private int lowestNext(int ahead) {
            int barred = twice | ringed;
            for (int c = 0; c < count; c++) {
                boolean isBarred = ((1 << c | reached[c]) & barred) != 0;
                boolean isReady = (needed[c] & ALL_CELLS & ~ahead) == 0;
                if (!isBarred && isReady && !has(ahead, c)) {
                    return c;
                }
            }
            return NONE;
        }
    }
}
