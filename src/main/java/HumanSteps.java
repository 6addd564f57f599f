/** Number place by human steps; ../shared/DOC.md is its document. */
public final class HumanSteps {
    private static final int STEPS = 19;
    private static final int ONLY_ONE_ANSWER = 18;
    private static final int NOTHING = -1;
    private static final int BROKEN = -2;
    private static final int LETTERS_OF_A_CELL = 5;
    private static final Name[] NAMES = Name.values();

    private final Seeker seeker;
    private final Grid grid;
    private final Finding finding;
    private final History history;
    private final boolean[] switchedOn;
    private final int[] times;

    public HumanSteps(int kind) {
        seeker = new Seeker(kind);
        grid = seeker.grid;
        finding = seeker.finding;
        history = new History(grid.n);
        switchedOn = new boolean[STEPS];
        for (int step = 0; step < STEPS; step++) {
            switchedOn[step] = step != ONLY_ONE_ANSWER;
        }
        times = new int[STEPS];
    }

    public boolean set(int cell, int symbol) throws ArrayIndexOutOfBoundsException, IllegalArgumentException {
        checkCell(cell);
        checkSymbol(symbol);
        if (!isOpenCandidate(cell, symbol)) {
            return false;
        }
        // By way of the finding, so that one place alone says what a set cell takes.
        finding.clear();
        seeker.settle(cell, symbol);
        carryOut();
        forgetSteps();
        return true;
    }

    public boolean take(int cell, int symbol) throws ArrayIndexOutOfBoundsException, IllegalArgumentException {
        checkCell(cell);
        checkSymbol(symbol);
        if (!isOpenCandidate(cell, symbol)) {
            return false;
        }
        grid.drop(cell, symbol);
        forgetSteps();
        return true;
    }

    public boolean enable(int step, boolean on) throws ArrayIndexOutOfBoundsException {
        checkStep(step);
        if (switchedOn[step] == on) {
            return false;
        }
        switchedOn[step] = on;
        finding.clear();
        return true;
    }

    public int find() {
        finding.clear();
        if (grid.isBroken()) {
            return BROKEN;
        }
        for (int step = 0; step < STEPS; step++) {
            if (switchedOn[step] && seeker.seek(step)) {
                finding.step = step;
                return step;
            }
        }
        return NOTHING;
    }

    public int found(int k) {
        if (finding.step == NOTHING) {
            return NOTHING;
        }
        switch (k) {
            case 0:
                return finding.step;
            case 1:
                return finding.reasons;
            case 2:
                return finding.goers;
            case 3:
                return finding.cell;
            case 4:
                return finding.symbol;
            default:
                return NOTHING;
        }
    }

    public int reason(int k) {
        if (k < 0 || k >= finding.reasons) {
            return NOTHING;
        }
        return finding.reason[k];
    }

    public int goes(int k) {
        if (k < 0 || k >= finding.goers) {
            return NOTHING;
        }
        return finding.goer(k, grid.n);
    }

    public boolean apply() {
        if (finding.step == NOTHING) {
            return false;
        }
        performFound();
        return true;
    }

    public int solve(int most) {
        if (most < 0) {
            return NOTHING;
        }
        finding.clear();
        int bound = Math.min(most, history.mostSteps());
        int count = 0;
        while (count < bound && find() >= 0) {
            performFound();
            count++;
        }
        return count;
    }

    public int undo() {
        if (history.depth == 0) {
            return NOTHING;
        }
        int step = history.takeBack(grid);
        times[step]--;
        finding.clear();
        return step;
    }

    public int done(int step) throws ArrayIndexOutOfBoundsException {
        checkStep(step);
        return times[step];
    }

    public int candidates(int cell) throws ArrayIndexOutOfBoundsException {
        checkCell(cell);
        return grid.candidates[cell];
    }

    public int value(int cell) throws ArrayIndexOutOfBoundsException {
        checkCell(cell);
        return grid.value[cell];
    }

    public int state(int what) {
        switch (what) {
            case 0:
                return grid.openCells();
            case 1:
                return grid.openCandidates();
            case 2:
                return grid.isBroken() ? 1 : 0;
            case 3:
                return grid.n;
            case 4:
                return allTimes();
            default:
                return NOTHING;
        }
    }

    public int words(int language, int i) {
        if (finding.step == NOTHING || language < 0 || language > 1 || i < 0) {
            return NOTHING;
        }
        Name name = NAMES[finding.step];
        String text = language == 0 ? name.english : name.german;
        if (i < text.length()) {
            return text.charAt(i);
        }
        int behind = i - text.length();
        int k = behind / LETTERS_OF_A_CELL;
        if (k >= finding.reasons) {
            return NOTHING;
        }
        return letterOfCell(finding.reason[k], behind - k * LETTERS_OF_A_CELL);
    }

    private int letterOfCell(int cell, int at) {
        switch (at) {
            case 0:
                return ' ';
            case 1:
                return 'r';
            case 2:
                return '1' + grid.rowOf(cell);
            case 3:
                return 'c';
            default:
                return '1' + grid.columnOf(cell);
        }
    }

    private void performFound() {
        int step = finding.step;
        carryOut();
        history.close(step, finding.cell);
        times[step]++;
        finding.clear();
    }

    private void carryOut() {
        for (int cell = 0; cell < grid.cells; cell++) {
            int going = finding.going[cell];
            for (int symbol = 0; going != 0 && symbol < grid.n; symbol++) {
                if ((going >> symbol & 1) != 0) {
                    grid.drop(cell, symbol);
                    history.note(cell, symbol);
                }
            }
        }
        if (finding.cell >= 0) {
            grid.value[finding.cell] = finding.symbol;
        }
    }

    private void forgetSteps() {
        history.clear();
        finding.clear();
    }

    private boolean isOpenCandidate(int cell, int symbol) {
        return grid.isOpen(cell) && (grid.candidates[cell] >> symbol & 1) != 0;
    }

    private int allTimes() {
        int sum = 0;
        for (int step = 0; step < STEPS; step++) {
            sum += times[step];
        }
        return sum;
    }

    private void checkCell(int cell) {
        if (cell < 0 || cell >= grid.cells) {
            throw new ArrayIndexOutOfBoundsException("no such cell");
        }
    }

    private void checkSymbol(int symbol) {
        if (symbol < 0 || symbol >= grid.n) {
            throw new IllegalArgumentException("no such symbol");
        }
    }

    private void checkStep(int step) {
        if (step < 0 || step >= STEPS) {
            throw new ArrayIndexOutOfBoundsException("no such step");
        }
    }

    private static int leastBit(int bits) {
        int at = 0;
        while (at < 31 && (bits >> at & 1) == 0) {
            at++;
        }
        return at;
    }

    /** The steps' names in both languages, by the steps' numbers. */
    private enum Name {
        LAST("last", "letzte"),
        IN_BOX("in box", "im Block"),
        IN_ROW("in row", "in der Zeile"),
        IN_COLUMN("in column", "in der Spalte"),
        POINTING("pointing", "zeigend"),
        CLAIMING("claiming", "fordernd"),
        PAIR("pair", "Paar"),
        TRIPLE("triple", "Tripel"),
        QUAD("quad", "Quartett"),
        HIDDEN_PAIR("hidden pair", "verstecktes Paar"),
        HIDDEN_TRIPLE("hidden triple", "verstecktes Tripel"),
        TWO_ROWS("two rows", "zwei Zeilen"),
        TWO_COLUMNS("two columns", "zwei Spalten"),
        THREE_ROWS("three rows", "drei Zeilen"),
        THREE_COLUMNS("three columns", "drei Spalten"),
        WING("wing", "Schwinge"),
        GREAT_WING("great wing", "grosse Schwinge"),
        COLOURS("colours", "Farben"),
        ONLY_ONE_ANSWER("only one answer", "nur eine Antwort");

        final String english;
        final String german;

        Name(String english, String german) {
            this.english = english;
            this.german = german;
        }
    }

    /**
     * Cells, houses and candidates. A cell lies in one house of each direction (ROW, COLUMN, BOX),
     * there at a PLACE 0 .. n - 1; places rise as cells' numbers do.
     */
    private static final class Grid {
        static final int ROW = 0;
        static final int COLUMN = 1;
        static final int BOX = 2;
        static final int DIRECTIONS = 3;

        final int n;
        final int cells;
        final int houses;
        final int[] candidates;
        final int[] value;
        private final int[] cellAt;
        private final int[] houseOf;
        private final int[] placeOf;
        // Kept beside the candidates, as nearly every step asks for a symbol's places in a house.
        private final int[] placeBits;

        Grid(int kind) {
            int wide = kind <= 0 ? 2 : 3;
            int high = kind <= 1 ? 2 : 3;
            n = wide * high;
            cells = n * n;
            houses = DIRECTIONS * n;
            candidates = new int[cells];
            value = new int[cells];
            cellAt = new int[houses * n];
            houseOf = new int[cells * DIRECTIONS];
            placeOf = new int[cells * DIRECTIONS];
            placeBits = new int[houses * n];
            layLines();
            layBoxes(wide, high);
            fill();
        }

        private void layLines() {
            for (int y = 0; y < n; y++) {
                for (int x = 0; x < n; x++) {
                    lay(n * y + x, ROW, y, x);
                    lay(n * y + x, COLUMN, x, y);
                }
            }
        }

        private void layBoxes(int wide, int high) {
            for (int box = 0, top = 0; top < n; top += high) {
                for (int left = 0; left < n; left += wide, box++) {
                    for (int place = 0, y = top; y < top + high; y++) {
                        for (int x = left; x < left + wide; x++, place++) {
                            lay(n * y + x, BOX, box, place);
                        }
                    }
                }
            }
        }

        private void lay(int cell, int direction, int index, int place) {
            int house = direction * n + index;
            cellAt[house * n + place] = cell;
            houseOf[cell * DIRECTIONS + direction] = house;
            placeOf[cell * DIRECTIONS + direction] = place;
        }

        private void fill() {
            int all = (1 << n) - 1;
            for (int cell = 0; cell < cells; cell++) {
                candidates[cell] = all;
                value[cell] = NOTHING;
            }
            for (int i = 0; i < placeBits.length; i++) {
                placeBits[i] = all;
            }
        }

        int cell(int house, int place) {
            return cellAt[house * n + place];
        }

        int house(int cell, int direction) {
            return houseOf[cell * DIRECTIONS + direction];
        }

        int rowOf(int cell) {
            return house(cell, ROW);
        }

        int columnOf(int cell) {
            return house(cell, COLUMN) - n;
        }

        int places(int house, int symbol) {
            return placeBits[house * n + symbol];
        }

        boolean isOpen(int cell) {
            return value[cell] == NOTHING;
        }

        boolean isIn(int cell, int house) {
            return house(cell, ROW) == house || house(cell, COLUMN) == house || house(cell, BOX) == house;
        }

        boolean see(int one, int other) {
            int i = one * DIRECTIONS;
            int j = other * DIRECTIONS;
            return one != other
                && (houseOf[i + ROW] == houseOf[j + ROW]
                    || houseOf[i + COLUMN] == houseOf[j + COLUMN]
                    || houseOf[i + BOX] == houseOf[j + BOX]);
        }

        void drop(int cell, int symbol) {
            candidates[cell] &= ~(1 << symbol);
            for (int i = cell * DIRECTIONS; i < (cell + 1) * DIRECTIONS; i++) {
                placeBits[houseOf[i] * n + symbol] &= ~(1 << placeOf[i]);
            }
        }

        void giveBack(int cell, int symbol) {
            candidates[cell] |= 1 << symbol;
            for (int i = cell * DIRECTIONS; i < (cell + 1) * DIRECTIONS; i++) {
                placeBits[houseOf[i] * n + symbol] |= 1 << placeOf[i];
            }
        }

        boolean isBroken() {
            for (int cell = 0; cell < cells; cell++) {
                if (candidates[cell] == 0) {
                    return true;
                }
            }
            for (int i = 0; i < placeBits.length; i++) {
                if (placeBits[i] == 0) {
                    return true;
                }
            }
            return false;
        }

        int openCells() {
            int count = 0;
            for (int cell = 0; cell < cells; cell++) {
                count += isOpen(cell) ? 1 : 0;
            }
            return count;
        }

        int openCandidates() {
            int count = 0;
            for (int cell = 0; cell < cells; cell++) {
                count += isOpen(cell) ? Integer.bitCount(candidates[cell]) : 0;
            }
            return count;
        }
    }

    /** What a step does at one place: the cell it sets or none, the candidates that go, the reason. */
    private static final class Finding {
        final int[] going;
        final int[] reason;
        int step;
        int cell;
        int symbol;
        int goers;
        int reasons;

        Finding(int cells) {
            going = new int[cells];
            reason = new int[cells];
            step = NOTHING;
            cell = NOTHING;
            symbol = NOTHING;
        }

        void clear() {
            for (int i = 0; i < going.length; i++) {
                going[i] = 0;
            }
            step = NOTHING;
            cell = NOTHING;
            symbol = NOTHING;
            goers = 0;
            reasons = 0;
        }

        void strike(int where, int symbols) {
            goers += Integer.bitCount(symbols & ~going[where]);
            going[where] |= symbols;
        }

        /** Keeps the reason by rising numbers, each cell once, in whatever order the cells come. */
        void because(int where) {
            int at = reasons;
            while (at > 0 && reason[at - 1] >= where) {
                at--;
            }
            if (reasons == reason.length || (at < reasons && reason[at] == where)) {
                return;
            }
            for (int i = reasons; i > at; i--) {
                reason[i] = reason[i - 1];
            }
            reason[at] = where;
            reasons++;
        }

        int goer(int k, int n) {
            int left = k;
            for (int where = 0; where < going.length; where++) {
                int count = Integer.bitCount(going[where]);
                if (left < count) {
                    return n * where + nthBit(going[where], left);
                }
                left -= count;
            }
            return NOTHING;
        }

        private static int nthBit(int bits, int k) {
            int rest = bits;
            for (int i = 0; i < k; i++) {
                rest &= rest - 1;
            }
            return leastBit(rest);
        }
    }

    /**
     * The steps done since the grid was last changed by hand. Each one sets an open cell or takes a
     * candidate, so there are never more of them than cells and candidates together.
     */
    private static final class History {
        private static final int SYMBOL_BITS = 4;
        private static final int SYMBOL_MASK = 15;

        private final int[] gone;
        private final int[] steps;
        private final int[] setCells;
        private final int[] ends;
        private int size;
        int depth;

        History(int n) {
            gone = new int[n * n * n];
            steps = new int[n * n * n + n * n];
            setCells = new int[steps.length];
            ends = new int[steps.length];
        }

        int mostSteps() {
            return steps.length;
        }

        void clear() {
            size = 0;
            depth = 0;
        }

        void note(int cell, int symbol) {
            if (size < gone.length) {
                gone[size] = cell << SYMBOL_BITS | symbol;
                size++;
            }
        }

        void close(int step, int setCell) {
            if (depth < steps.length) {
                steps[depth] = step;
                setCells[depth] = setCell;
                ends[depth] = size;
                depth++;
            }
        }

        /** Only when depth is above 0. */
        int takeBack(Grid grid) {
            depth--;
            int start = depth > 0 ? ends[depth - 1] : 0;
            while (size > start) {
                size--;
                grid.giveBack(gone[size] >> SYMBOL_BITS, gone[size] & SYMBOL_MASK);
            }
            if (setCells[depth] >= 0) {
                grid.value[setCells[depth]] = NOTHING;
            }
            return steps[depth];
        }
    }

    /** All sets of two, three or four of the numbers 0 .. n - 1, as bits, in the document's order. */
    private static final class Sets {
        private static final int LEAST = 2;
        private static final int MOST = 4;

        private final int n;
        private final int[] bits;
        private final int[] starts;
        private int size;

        Sets(int n) {
            this.n = n;
            bits = new int[1 << n];
            starts = new int[MOST + 2];
            for (int count = LEAST; count <= MOST; count++) {
                starts[count] = size;
                gather(0, count, 0);
            }
            starts[MOST + 1] = size;
        }

        private void gather(int from, int left, int chosen) {
            if (left > 0) {
                for (int next = from; next <= n - left; next++) {
                    gather(next + 1, left - 1, chosen | 1 << next);
                }
            } else if (size < bits.length) {
                bits[size] = chosen;
                size++;
            }
        }

        int start(int count) {
            return starts[count];
        }

        int end(int count) {
            return starts[count + 1];
        }

        int get(int index) {
            return bits[index];
        }
    }

    /**
     * Looks for each step's first place. A place that takes nothing leaves the finding untouched, so
     * it is cleared once before a search, not before each place.
     */
    private static final class Seeker {
        final Grid grid;
        final Finding finding;
        private final int n;
        private final Sets sets;
        private final Colours colours;
        private final int[] masks;

        Seeker(int kind) {
            grid = new Grid(kind);
            n = grid.n;
            finding = new Finding(grid.cells);
            sets = new Sets(n);
            colours = new Colours(grid.cells);
            masks = new int[n];
        }

        boolean seek(int step) {
            switch (step) {
                case 0:
                    return last();
                case 1:
                    return onlyPlace(2 * n);
                case 2:
                    return onlyPlace(0);
                case 3:
                    return onlyPlace(n);
                case 4:
                    return pointing();
                case 5:
                    return claiming();
                case 6:
                case 7:
                case 8:
                    return nakedSet(step - 4);
                case 9:
                case 10:
                    return hiddenSet(step - 7);
                case 11:
                    return crossing(0, 2);
                case 12:
                    return crossing(n, 2);
                case 13:
                    return crossing(0, 3);
                case 14:
                    return crossing(n, 3);
                case 15:
                    return wing(2);
                case 16:
                    return wing(3);
                case 17:
                    return colours.look(grid, finding);
                default:
                    return onlyOneAnswer();
            }
        }

        void settle(int cell, int symbol) {
            finding.cell = cell;
            finding.symbol = symbol;
            finding.strike(cell, grid.candidates[cell] & ~(1 << symbol));
            for (int other = 0; other < grid.cells; other++) {
                if (grid.see(cell, other)) {
                    finding.strike(other, grid.candidates[other] & 1 << symbol);
                }
            }
        }

        private void strikePlaces(int house, int places, int symbols) {
            for (int place = 0; place < n; place++) {
                if ((places >> place & 1) != 0) {
                    int cell = grid.cell(house, place);
                    finding.strike(cell, grid.candidates[cell] & symbols);
                }
            }
        }

        private boolean takesSome() {
            return finding.goers > 0;
        }

        private void becauseOf(int house, int places) {
            for (int place = 0; place < n; place++) {
                if ((places >> place & 1) != 0) {
                    finding.because(grid.cell(house, place));
                }
            }
        }

        private boolean last() {
            for (int cell = 0; cell < grid.cells; cell++) {
                if (grid.isOpen(cell) && Integer.bitCount(grid.candidates[cell]) == 1) {
                    settle(cell, leastBit(grid.candidates[cell]));
                    finding.because(cell);
                    return true;
                }
            }
            return false;
        }

        private boolean onlyPlace(int firstHouse) {
            for (int house = firstHouse; house < firstHouse + n; house++) {
                for (int symbol = 0; symbol < n; symbol++) {
                    int places = grid.places(house, symbol);
                    if (Integer.bitCount(places) == 1 && isOpenIn(house, symbol)) {
                        settle(grid.cell(house, leastBit(places)), symbol);
                        becauseOf(house, (1 << n) - 1);
                        return true;
                    }
                }
            }
            return false;
        }

        /** A set cell is the only place of its symbol in its houses: it took the symbol from the rest. */
        private boolean isOpenIn(int house, int symbol) {
            int places = grid.places(house, symbol);
            return Integer.bitCount(places) > 1
                || (places != 0 && grid.isOpen(grid.cell(house, leastBit(places))));
        }

        private boolean pointing() {
            for (int box = 2 * n; box < 3 * n; box++) {
                for (int symbol = 0; symbol < n; symbol++) {
                    if (confined(box, symbol, Grid.ROW) || confined(box, symbol, Grid.COLUMN)) {
                        return true;
                    }
                }
            }
            return false;
        }

        private boolean claiming() {
            for (int line = 0; line < 2 * n; line++) {
                for (int symbol = 0; symbol < n; symbol++) {
                    if (confined(line, symbol, Grid.BOX)) {
                        return true;
                    }
                }
            }
            return false;
        }

        /** A symbol whose places in a house all lie in one house of another direction too. */
        private boolean confined(int house, int symbol, int direction) {
            int places = grid.places(house, symbol);
            if (Integer.bitCount(places) < 2) {
                return false;
            }
            int other = sharedHouse(house, places, direction);
            if (other == NOTHING) {
                return false;
            }
            for (int place = 0; place < n; place++) {
                int cell = grid.cell(other, place);
                if (!grid.isIn(cell, house)) {
                    finding.strike(cell, grid.candidates[cell] & 1 << symbol);
                }
            }
            if (!takesSome()) {
                return false;
            }
            becauseOf(house, places);
            return true;
        }

        private int sharedHouse(int house, int places, int direction) {
            int shared = grid.house(grid.cell(house, leastBit(places)), direction);
            for (int place = 0; place < n; place++) {
                if ((places >> place & 1) != 0 && grid.house(grid.cell(house, place), direction) != shared) {
                    return NOTHING;
                }
            }
            return shared;
        }

        private boolean nakedSet(int size) {
            for (int house = 0; house < grid.houses; house++) {
                for (int place = 0; place < n; place++) {
                    int cell = grid.cell(house, place);
                    masks[place] = grid.isOpen(cell) ? grid.candidates[cell] : 0;
                }
                int fit = fitItems(size);
                if (Integer.bitCount(fit) < size) {
                    continue;
                }
                for (int i = sets.start(size); i < sets.end(size); i++) {
                    int places = sets.get(i);
                    if (isCovered(places, fit, size)) {
                        strikePlaces(house, ~places, unionOf(places));
                        if (takesSome()) {
                            becauseOf(house, places);
                            return true;
                        }
                    }
                }
            }
            return false;
        }

        private boolean hiddenSet(int size) {
            for (int house = 0; house < grid.houses; house++) {
                for (int symbol = 0; symbol < n; symbol++) {
                    masks[symbol] = isOpenIn(house, symbol) ? grid.places(house, symbol) : 0;
                }
                int fit = fitItems(size);
                if (Integer.bitCount(fit) < size) {
                    continue;
                }
                for (int i = sets.start(size); i < sets.end(size); i++) {
                    int symbols = sets.get(i);
                    if (isCovered(symbols, fit, size)) {
                        strikePlaces(house, unionOf(symbols), ~symbols);
                        if (takesSome()) {
                            becauseOf(house, unionOf(symbols));
                            return true;
                        }
                    }
                }
            }
            return false;
        }

        private boolean crossing(int firstHouse, int size) {
            for (int symbol = 0; symbol < n; symbol++) {
                for (int line = 0; line < n; line++) {
                    int places = grid.places(firstHouse + line, symbol);
                    masks[line] = Integer.bitCount(places) >= 2 ? places : 0;
                }
                int fit = fitItems(size);
                if (Integer.bitCount(fit) < size) {
                    continue;
                }
                for (int i = sets.start(size); i < sets.end(size); i++) {
                    int lines = sets.get(i);
                    if (isCovered(lines, fit, size) && crossingAt(firstHouse, lines, symbol)) {
                        return true;
                    }
                }
            }
            return false;
        }

        private boolean crossingAt(int firstHouse, int lines, int symbol) {
            int across = unionOf(lines);
            for (int line = 0; line < n; line++) {
                if ((lines >> line & 1) == 0) {
                    strikePlaces(firstHouse + line, across, 1 << symbol);
                }
            }
            if (!takesSome()) {
                return false;
            }
            for (int line = 0; line < n; line++) {
                if ((lines >> line & 1) != 0) {
                    becauseOf(firstHouse + line, grid.places(firstHouse + line, symbol));
                }
            }
            return true;
        }

        /** The items, as bits, whose own masks are small enough for a covered set of this size. */
        private int fitItems(int size) {
            int fit = 0;
            for (int item = 0; item < n; item++) {
                if (masks[item] != 0 && Integer.bitCount(masks[item]) <= size) {
                    fit |= 1 << item;
                }
            }
            return fit;
        }

        private boolean isCovered(int items, int fit, int size) {
            return (items & ~fit) == 0 && Integer.bitCount(unionOf(items)) == size;
        }

        private int unionOf(int items) {
            int union = 0;
            for (int item = 0; item < n; item++) {
                if ((items >> item & 1) != 0) {
                    union |= masks[item];
                }
            }
            return union;
        }

        /** With a first cell of two candidates the wing, of three the great wing. */
        private boolean wing(int size) {
            for (int first = 0; first < grid.cells; first++) {
                if (Integer.bitCount(grid.candidates[first]) != size) {
                    continue;
                }
                for (int lesser = 0; lesser < grid.cells; lesser++) {
                    if (!isWingtip(first, lesser)) {
                        continue;
                    }
                    for (int greater = lesser + 1; greater < grid.cells; greater++) {
                        if (isWingtip(first, greater) && wingAt(first, lesser, greater, size)) {
                            return true;
                        }
                    }
                }
            }
            return false;
        }

        private boolean isWingtip(int first, int tip) {
            int symbols = grid.candidates[tip];
            return Integer.bitCount(symbols) == 2
                && symbols != grid.candidates[first]
                && Integer.bitCount(symbols | grid.candidates[first]) == 3
                && grid.see(first, tip);
        }

        private boolean wingAt(int first, int lesser, int greater, int size) {
            int one = grid.candidates[lesser];
            int other = grid.candidates[greater];
            if (one == other || Integer.bitCount(grid.candidates[first] | one | other) != 3) {
                return false;
            }
            for (int cell = 0; cell < grid.cells; cell++) {
                if (grid.see(cell, lesser) && grid.see(cell, greater) && (size == 2 || grid.see(cell, first))) {
                    finding.strike(cell, grid.candidates[cell] & one & other);
                }
            }
            if (!takesSome()) {
                return false;
            }
            finding.because(first);
            finding.because(lesser);
            finding.because(greater);
            return true;
        }

        private boolean onlyOneAnswer() {
            for (int upper = 0; upper < n; upper++) {
                for (int lower = upper + 1; lower < n; lower++) {
                    for (int left = 0; left < n; left++) {
                        for (int right = left + 1; right < n; right++) {
                            if (rectangleAt(upper, lower, left, right)) {
                                return true;
                            }
                        }
                    }
                }
            }
            return false;
        }

        private boolean rectangleAt(int upper, int lower, int left, int right) {
            int a = grid.cell(upper, left);
            int b = grid.cell(upper, right);
            int c = grid.cell(lower, left);
            int d = grid.cell(lower, right);
            if (!isInTwoBoxes(a, b, c)) {
                return false;
            }
            if (!fourth(a, b, c, d) && !fourth(b, a, c, d) && !fourth(c, a, b, d) && !fourth(d, a, b, c)) {
                return false;
            }
            finding.because(a);
            finding.because(b);
            finding.because(c);
            finding.because(d);
            return true;
        }

        /** One box for all four and a box for each are the other cases. */
        private boolean isInTwoBoxes(int corner, int beside, int below) {
            int box = grid.house(corner, Grid.BOX);
            return (box == grid.house(beside, Grid.BOX)) != (box == grid.house(below, Grid.BOX));
        }

        /** No test for open cells: a set one has a single candidate. */
        private boolean fourth(int cell, int one, int two, int three) {
            int both = grid.candidates[one];
            int all = grid.candidates[cell];
            if (Integer.bitCount(both) != 2 || grid.candidates[two] != both || grid.candidates[three] != both) {
                return false;
            }
            if (all == both || (all & both) != both) {
                return false;
            }
            finding.strike(cell, both);
            return true;
        }
    }

    /** The step COLOURS: one symbol's places, joined by links and coloured in turn. */
    private static final class Colours {
        private static final int LIGHT = 0;
        private static final int DARK = 1;
        private static final int BOTH = 1 << LIGHT | 1 << DARK;
        private static final int LEFT_BEHIND = 4;

        private final int[] marks;
        // Each joined cell with a colour it has: twice the cell, plus the colour.
        private final int[] joined;
        private int size;

        Colours(int cells) {
            marks = new int[cells];
            joined = new int[2 * cells];
        }

        boolean look(Grid grid, Finding finding) {
            for (int symbol = 0; symbol < grid.n; symbol++) {
                for (int cell = 0; cell < marks.length; cell++) {
                    marks[cell] = 0;
                }
                for (int cell = 0; cell < marks.length; cell++) {
                    if (marks[cell] == 0 && (grid.candidates[cell] >> symbol & 1) != 0) {
                        join(grid, symbol, cell);
                        if (size > 1 && takes(grid, finding, symbol)) {
                            return true;
                        }
                        leaveBehind();
                    }
                }
            }
            return false;
        }

        private void join(Grid grid, int symbol, int least) {
            size = 0;
            colour(least, LIGHT);
            for (int i = 0; i < size && i < joined.length; i++) {
                int cell = joined[i] >> 1;
                int opposite = 1 - (joined[i] & 1);
                for (int direction = 0; direction < Grid.DIRECTIONS; direction++) {
                    int linked = linkedCell(grid, symbol, cell, direction);
                    if (linked != NOTHING) {
                        colour(linked, opposite);
                    }
                }
            }
        }

        private void colour(int cell, int colour) {
            if ((marks[cell] >> colour & 1) == 0 && size < joined.length) {
                marks[cell] |= 1 << colour;
                joined[size] = 2 * cell + colour;
                size++;
            }
        }

        private int linkedCell(Grid grid, int symbol, int cell, int direction) {
            int house = grid.house(cell, direction);
            int places = grid.places(house, symbol);
            if (Integer.bitCount(places) != 2) {
                return NOTHING;
            }
            int one = grid.cell(house, leastBit(places));
            return one != cell ? one : grid.cell(house, leastBit(places & places - 1));
        }

        private boolean takes(Grid grid, Finding finding, int symbol) {
            if (clash(grid, LIGHT)) {
                strikeColour(finding, LIGHT, symbol);
            } else if (clash(grid, DARK)) {
                strikeColour(finding, DARK, symbol);
            } else {
                strikeOthers(grid, finding, symbol);
            }
            if (finding.goers == 0) {
                return false;
            }
            for (int i = 0; i < size; i++) {
                finding.because(joined[i] >> 1);
            }
            return true;
        }

        private boolean clash(Grid grid, int colour) {
            for (int i = 0; i < size; i++) {
                for (int j = 0; j < i; j++) {
                    boolean alike = (joined[i] & 1) == colour && (joined[j] & 1) == colour;
                    if (alike && grid.see(joined[i] >> 1, joined[j] >> 1)) {
                        return true;
                    }
                }
            }
            return false;
        }

        private void strikeColour(Finding finding, int colour, int symbol) {
            for (int i = 0; i < size; i++) {
                if ((joined[i] & 1) == colour) {
                    finding.strike(joined[i] >> 1, 1 << symbol);
                }
            }
        }

        private void strikeOthers(Grid grid, Finding finding, int symbol) {
            for (int cell = 0; cell < marks.length; cell++) {
                boolean isOther = marks[cell] == 0 || marks[cell] == LEFT_BEHIND;
                int seen = 0;
                for (int i = 0; isOther && i < size; i++) {
                    if (grid.see(cell, joined[i] >> 1)) {
                        seen |= 1 << (joined[i] & 1);
                    }
                }
                if (seen == BOTH) {
                    finding.strike(cell, grid.candidates[cell] & 1 << symbol);
                }
            }
        }

        private void leaveBehind() {
            for (int i = 0; i < size; i++) {
                marks[joined[i] >> 1] = LEFT_BEHIND;
            }
        }
    }
}
