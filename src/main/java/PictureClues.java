import java.util.Arrays;

/**
 * A workbench for picture puzzles that are solved by clues at the lines: each clue tells which
 * blocks of colored cells follow one another in a row or column.
 */
public final class PictureClues {
    public static final int NONE = -1, BAD = -2, STATE = -3, WRONG = -4;

    /** The greatest width and height, and so the most cells and the most blocks of a line. */
    private static final int SIDE = 8;
    private static final int MOST_LINES = 2 * SIDE;
    private static final int MOST_CELLS = SIDE * SIDE;
    private static final int MOST_COLORS = 3;
    /** The colors and the empty color 0. */
    private static final int SHADES = MOST_COLORS + 1;
    private static final int MOST_LETTERS = 120;
    private static final int MOST_STATES = 8;
    /** A fault p of a text is answered as FAULT - p. */
    private static final int FAULT = -2000;
    /**
     * Far above the steps of any narrowing: each of its narrowings takes one of 256 colors of cells away
     * for good, and between two of them lie 16 lines or 256 trials at most.
     */
    private static final int MANY_STEPS = 1_000_000;

    private final Grid grid;
    private final Situation now;
    private final History history;
    private final ClueText text;
    private final Clues loaded;
    private final Fillings fillings;
    private final Narrower narrower;
    private final Search search;
    private final Advice advice;

    public PictureClues() {
        grid = new Grid();
        now = new Situation();
        history = new History();
        text = new ClueText();
        loaded = new Clues();
        fillings = new Fillings(grid, now.clues);
        narrower = new Narrower(grid, now.clues, fillings);
        search = new Search(grid, now.clues, narrower);
        advice = new Advice(grid, now.clues, fillings, narrower);
        begin(5, 5, 1);
    }

    public int start(int width, int height, int colors) {
        if (!isWithin(width, 1, SIDE) || !isWithin(height, 1, SIDE) || !isWithin(colors, 1, MOST_COLORS)) {
            return BAD;
        }
        begin(width, height, colors);
        return grid.lines();
    }

    public int addBlock(int line, int length, int color) {
        if (!grid.hasLine(line) || !isWithin(length, 1, SIDE) || !isWithin(color, 1, grid.colors)) {
            return BAD;
        }
        if (now.clues.roomWith(line, length, color) > grid.cellsOf(line)) {
            return STATE;
        }
        history.record(now);
        now.clues.append(line, length, color);
        return now.clues.sizes[line];
    }

    public int setClue(int line, boolean has) {
        if (!grid.hasLine(line)) {
            return BAD;
        }
        int before = now.clues.has(line) ? 1 : 0;
        history.record(now);
        now.clues.reset(line, has);
        return before;
    }

    public int line(int line, int what) {
        if (!grid.hasLine(line) || !isWithin(what, 0, 4)) {
            return BAD;
        }
        switch (what) {
            case 0:
                return now.clues.has(line) ? now.clues.sizes[line] : NONE;
            case 1:
                return now.clues.rooms[line];
            case 2:
                return fillings.number(now.marks, line);
            case 3:
                return grid.cellsOf(line) - Integer.bitCount(grid.bitsOf(now.marks.doubtful(), line));
            default:
                return isWrong(line) ? 1 : 0;
        }
    }

    public int block(int line, int block, int what) {
        if (!grid.hasLine(line) || !isWithin(block, 0, now.clues.sizes[line] - 1) || !isWithin(what, 0, 3)) {
            return BAD;
        }
        if (what == 0) {
            return now.clues.lengthOf(line, block);
        }
        if (what == 1) {
            return now.clues.colorOf(line, block);
        }
        if (isWrong(line)) {
            return NONE;
        }
        return what == 2 ? fillings.earliest(block) : fillings.latest(block);
    }

    public int paint(int x, int y, int width, int height, int color) {
        if (!grid.hasCell(x, y) || !isWithin(width, 1, grid.width - x) || !isWithin(height, 1, grid.height - y)
                || !isWithin(color, 0, grid.colors)) {
            return BAD;
        }
        long area = Grid.rectangle(width, height) << Grid.index(x, y);
        history.record(now);
        int different = Long.bitCount(area & ~now.picture.cells[color]);
        now.picture.put(area, 1 << color);
        return different;
    }

    public int takeClues() {
        history.record(now);
        int blocks = 0;
        for (int line = 0; line < grid.lines(); line++) {
            takeClue(line);
            blocks += line < grid.height ? now.clues.sizes[line] : 0;
        }
        return blocks;
    }

    public int picture(int x, int y) {
        return grid.hasCell(x, y) ? now.picture.colorAt(Grid.cell(x, y)) : BAD;
    }

    public int type(int letter) {
        if (!isWithin(letter, 0, 127)) {
            return BAD;
        }
        if (text.length >= MOST_LETTERS) {
            return STATE;
        }
        text.append(letter);
        return text.length;
    }

    public int clear() {
        int before = text.length;
        text.length = 0;
        return before;
    }

    public int load() {
        int fault = text.read(loaded, grid);
        if (fault != NONE) {
            return FAULT - fault;
        }
        history.record(now);
        now.clues.copyFrom(loaded);
        text.length = 0;
        return now.clues.blocks();
    }

    public int setMark(int x, int y, int which) {
        if (!grid.hasCell(x, y) || !isWithin(which, 1, grid.fullMark())) {
            return BAD;
        }
        long cell = Grid.cell(x, y);
        int before = now.marks.colorsAt(cell);
        history.record(now);
        now.marks.put(cell, which);
        return before;
    }

    public int mark(int x, int y) {
        return grid.hasCell(x, y) ? now.marks.colorsAt(Grid.cell(x, y)) : BAD;
    }

    public int clearMarks() {
        history.record(now);
        narrower.marks.copyFrom(now.marks);
        now.marks.put(grid.all, grid.fullMark());
        return Long.bitCount(now.marks.difference(narrower.marks));
    }

    public int narrow(int level) {
        if (!isWithin(level, 1, 3)) {
            return BAD;
        }
        narrower.marks.copyFrom(now.marks);
        boolean settled = level == 3 ? narrower.settleByTrials() : narrower.settle(now.clues.clued, level == 1);
        if (!settled) {
            return WRONG;
        }
        history.record(now);
        int different = Long.bitCount(now.marks.difference(narrower.marks));
        now.marks.copyFrom(narrower.marks);
        return different;
    }

    public int trial(int x, int y, int color) {
        if (!grid.hasCell(x, y) || !isWithin(color, 0, grid.colors)) {
            return BAD;
        }
        int index = Grid.index(x, y);
        narrower.marks.copyFrom(now.marks);
        if (!narrower.isOpen(index, color)) {
            return STATE;
        }
        return narrower.refutes(index, color, now.clues.clued) ? 1 : 0;
    }

    public int solutions(int most) {
        if (!isWithin(most, 1, 99)) {
            return BAD;
        }
        narrower.marks.copyFrom(now.marks);
        return search.run(most);
    }

    public int solve() {
        narrower.marks.copyFrom(now.marks);
        if (search.run(1) == 0) {
            return NONE;
        }
        history.record(now);
        now.picture.copyFrom(search.first);
        return filledCells();
    }

    public int difficulty() {
        narrower.marks.put(grid.all, grid.fullMark());
        for (int level = 1; level <= 2; level++) {
            if (!narrower.settle(now.clues.clued, level == 1)) {
                return 0;
            }
            if (narrower.marks.doubtful() == 0) {
                return level;
            }
        }
        // A search costs less than all trials, and mostly settles the matter.
        int found = search.run(2);
        if (found != 1) {
            return found == 0 ? 0 : 5;
        }
        narrower.marks.put(grid.all, grid.fullMark());
        return narrower.settleByTrials() && narrower.marks.doubtful() == 0 ? 3 : 4;
    }

    public int mistakes() {
        long wrong = 0;
        for (int color = 0; color < SHADES; color++) {
            wrong |= now.picture.cells[color] & ~now.marks.cells[color];
        }
        return Long.bitCount(wrong);
    }

    public int hint() {
        if (wrongLines() > 0) {
            return WRONG;
        }
        advice.rankLines(now.marks);
        boolean found = advice.seekInLines(now.marks, 1) || advice.seekInLines(now.marks, 2)
                || advice.seekByTrials(now.marks);
        return found ? advice.level : NONE;
    }

    public int hinted(int what) {
        if (!isWithin(what, 0, 4)) {
            return BAD;
        }
        if (advice.level == 0) {
            return STATE;
        }
        switch (what) {
            case 0:
                return advice.level;
            case 1:
                return Grid.xOf(advice.index);
            case 2:
                return Grid.yOf(advice.index);
            case 3:
                return advice.mark;
            default:
                return advice.line;
        }
    }

    public int takeHint() {
        if (advice.level == 0) {
            return STATE;
        }
        long cell = 1L << advice.index;
        int common = now.marks.colorsAt(cell) & advice.mark;
        if (common == 0) {
            return STATE;
        }
        history.record(now);
        now.marks.put(cell, common);
        return common;
    }

    public int undo() {
        if (history.states == 0) {
            return STATE;
        }
        history.restore(now);
        return history.states;
    }

    public int count(int what) {
        switch (what) {
            case 0:
                return grid.width;
            case 1:
                return grid.height;
            case 2:
                return grid.colors;
            case 3:
                return Integer.bitCount(now.clues.clued);
            case 4:
                return Long.bitCount(grid.all & ~now.marks.doubtful());
            case 5:
                return wrongLines();
            case 6:
                return now.clues.blocks();
            case 7:
                return filledCells();
            case 8:
                return history.states;
            case 9:
                return text.length;
            case 10:
                return fittingLines();
            default:
                return BAD;
        }
    }

    public long digest() {
        long hash = 633;
        for (int what = 0; what <= 10; what++) {
            hash = 31 * hash + count(what);
        }
        for (int line = 0; line < grid.lines(); line++) {
            hash = digestOfLine(hash, line);
        }
        for (int y = 0; y < grid.height; y++) {
            for (int x = 0; x < grid.width; x++) {
                hash = 31 * hash + mark(x, y);
                hash = 31 * hash + picture(x, y);
            }
        }
        for (int what = 0; what <= 4 && advice.level != 0; what++) {
            hash = 31 * hash + hinted(what);
        }
        for (int i = 0; i < text.length; i++) {
            hash = 31 * hash + text.letters[i];
        }
        return hash;
    }

    private long digestOfLine(long before, int line) {
        long hash = before;
        for (int what = 0; what <= 4; what++) {
            hash = 31 * hash + line(line, what);
        }
        for (int block = 0; block < now.clues.sizes[line]; block++) {
            for (int what = 0; what <= 3; what++) {
                hash = 31 * hash + block(line, block, what);
            }
        }
        return hash;
    }

    private void begin(int width, int height, int colors) {
        grid.resize(width, height, colors);
        now.clues.resetAll();
        now.marks.put(-1L, 0);
        now.marks.put(grid.all, grid.fullMark());
        now.picture.put(-1L, 0);
        now.picture.put(grid.all, 1);
        narrower.marks.copyFrom(now.marks);
        history.states = 0;
        advice.level = 0;
    }

    private void takeClue(int line) {
        now.clues.reset(line, true);
        int run = 0;
        for (int i = 0; i < grid.cellsOf(line); i++) {
            int color = now.picture.colorAt(grid.cellOf(line, i));
            int next = i + 1 < grid.cellsOf(line) ? now.picture.colorAt(grid.cellOf(line, i + 1)) : 0;
            run++;
            if (color != next) {
                if (color != 0) {
                    now.clues.append(line, run, color);
                }
                run = 0;
            }
        }
    }

    private boolean isWrong(int line) {
        return now.clues.has(line) && !fillings.examine(now.marks, line);
    }

    private int wrongLines() {
        int wrong = 0;
        for (int line = 0; line < grid.lines(); line++) {
            wrong += isWrong(line) ? 1 : 0;
        }
        return wrong;
    }

    private int fittingLines() {
        int fitting = 0;
        for (int line = 0; line < grid.lines(); line++) {
            // The picture leaves each cell one color: its filling is possible if it fits the clue.
            fitting += now.clues.has(line) && fillings.examine(now.picture, line) ? 1 : 0;
        }
        return fitting;
    }

    private int filledCells() {
        return Long.bitCount(grid.all & ~now.picture.cells[0]);
    }

    private static boolean isWithin(int value, int least, int greatest) {
        return value >= least && value <= greatest;
    }

    private static int lowestBit(long bits) {
        return Long.bitCount((bits & -bits) - 1);
    }

    /** The highest bit of a set that is not empty and has bits 0 to 15 alone. */
    private static int highestBit(int bits) {
        int below = bits | bits >>> 1;
        below |= below >>> 2;
        below |= below >>> 4;
        below |= below >>> 8;
        return Integer.bitCount(below) - 1;
    }

    /**
     * Where cells and lines lie. A set of cells is a long in which bit 8 * y + x stands for cell
     * (x, y), and a set of cells of one line is an int in which bit i stands for its cell i.
     */
    private static final class Grid {
        private static final long COLUMN = 0x0101010101010101L;
        /** Multiplying by this brings the bits of a column together in the highest byte. */
        private static final long GATHER = 0x0102040810204080L;
        /** Multiplying by this brings each of seven bits, among copies, to its row in a column. */
        private static final long SCATTER = 0x0002040810204081L;

        private int width;
        private int height;
        private int colors;
        private long all;

        void resize(int newWidth, int newHeight, int newColors) {
            width = newWidth;
            height = newHeight;
            colors = newColors;
            all = rectangle(newWidth, newHeight);
        }

        /** The cells of a rectangle in the corner (0, 0). */
        static long rectangle(int width, int height) {
            return ((1L << width) - 1) * (COLUMN >>> SIDE * (SIDE - height));
        }

        static int index(int x, int y) {
            return SIDE * y + x;
        }

        static int xOf(int index) {
            return index % SIDE;
        }

        static int yOf(int index) {
            return index / SIDE;
        }

        static long cell(int x, int y) {
            return 1L << index(x, y);
        }

        int lines() {
            return height + width;
        }

        int fullMark() {
            return (1 << colors + 1) - 1;
        }

        boolean hasLine(int line) {
            return isWithin(line, 0, lines() - 1);
        }

        boolean hasCell(int x, int y) {
            return isWithin(x, 0, width - 1) && isWithin(y, 0, height - 1);
        }

        int cellsOf(int line) {
            return line < height ? width : height;
        }

        long cellOf(int line, int i) {
            return line < height ? cell(i, line) : cell(line - height, i);
        }

        /** The next cell in row-major order. Behind the last cell it is one below the last row. */
        int indexAfter(int index) {
            return xOf(index) + 1 < width ? index + 1 : index(0, yOf(index) + 1);
        }

        /** The cell before one in row-major order. Before the first cell it is NONE. */
        int indexBefore(int index) {
            if (xOf(index) > 0) {
                return index - 1;
            }
            return yOf(index) > 0 ? index(width - 1, yOf(index) - 1) : NONE;
        }

        /** The row and the column of a cell, as a set of lines. */
        int linesOf(int index) {
            return 1 << yOf(index) | 1 << height + xOf(index);
        }

        /** The lines that cross a line in some of its cells. */
        int crossing(int line, int cells) {
            return line < height ? cells << height : cells;
        }

        int bitsOf(long cells, int line) {
            if (line < height) {
                return (int) (cells >>> SIDE * line) & 255;
            }
            return (int) ((cells >>> line - height & COLUMN) * GATHER >>> 56);
        }

        long cellsAt(int bits, int line) {
            if (line < height) {
                return (long) bits << SIDE * line;
            }
            long column = (bits & 127) * SCATTER & COLUMN | (long) (bits & 128) << 49;
            return column << line - height;
        }
    }

    /** For each color the cells that have it: in marks a cell can have several, in a picture one. */
    private static final class Layer {
        private final long[] cells = new long[SHADES];

        void copyFrom(Layer other) {
            for (int color = 0; color < SHADES; color++) {
                cells[color] = other.cells[color];
            }
        }

        void put(long area, int set) {
            for (int color = 0; color < SHADES; color++) {
                if ((set >>> color & 1) != 0) {
                    cells[color] |= area;
                } else {
                    cells[color] &= ~area;
                }
            }
        }

        int colorsAt(long cell) {
            int set = 0;
            for (int color = 0; color < SHADES; color++) {
                if ((cells[color] & cell) != 0) {
                    set |= 1 << color;
                }
            }
            return set;
        }

        int colorAt(long cell) {
            return lowestBit(colorsAt(cell));
        }

        /** The cells that have several colors. */
        long doubtful() {
            long ofFirstTwo = cells[0] | cells[1];
            long ofLastTwo = cells[2] | cells[3];
            return cells[0] & cells[1] | cells[2] & cells[3] | ofFirstTwo & ofLastTwo;
        }

        long difference(Layer other) {
            long different = 0;
            for (int color = 0; color < SHADES; color++) {
                different |= cells[color] ^ other.cells[color];
            }
            return different;
        }
    }

    /** The clues of all lines. */
    private static final class Clues {
        /** The set of the lines that have a clue; the others have size 0, too. */
        private int clued;
        private final int[] sizes = new int[MOST_LINES];
        private final int[] rooms = new int[MOST_LINES];
        private final int[] lengths = new int[MOST_LINES * SIDE];
        private final int[] colors = new int[MOST_LINES * SIDE];

        void copyFrom(Clues other) {
            clued = other.clued;
            System.arraycopy(other.sizes, 0, sizes, 0, MOST_LINES);
            System.arraycopy(other.rooms, 0, rooms, 0, MOST_LINES);
            System.arraycopy(other.lengths, 0, lengths, 0, MOST_LINES * SIDE);
            System.arraycopy(other.colors, 0, colors, 0, MOST_LINES * SIDE);
        }

        void resetAll() {
            clued = 0;
            Arrays.fill(sizes, 0);
            Arrays.fill(rooms, 0);
        }

        void reset(int line, boolean has) {
            clued = has ? clued | 1 << line : clued & ~(1 << line);
            sizes[line] = 0;
            rooms[line] = 0;
        }

        boolean has(int line) {
            return (clued >>> line & 1) != 0;
        }

        int lengthOf(int line, int block) {
            return lengths[SIDE * line + block];
        }

        int colorOf(int line, int block) {
            return colors[SIDE * line + block];
        }

        void append(int line, int length, int color) {
            if (sizes[line] >= SIDE) {
                return;
            }
            rooms[line] = roomWith(line, length, color);
            int end = SIDE * line + sizes[line];
            lengths[end] = length;
            colors[end] = color;
            sizes[line]++;
            clued |= 1 << line;
        }

        /** The cells that must lie empty before a block, because the one before it has its color. */
        int gapBefore(int line, int block) {
            if (block <= 0 || block >= sizes[line]) {
                return 0;
            }
            int at = SIDE * line + block;
            return colors[at - 1] == colors[at] ? 1 : 0;
        }

        /** The room that a clue would have with one more block. */
        int roomWith(int line, int length, int color) {
            int last = sizes[line] - 1;
            int gap = last >= 0 && colorOf(line, last) == color ? 1 : 0;
            return rooms[line] + gap + length;
        }

        int blocks() {
            int blocks = 0;
            for (int line = 0; line < MOST_LINES; line++) {
                blocks += sizes[line];
            }
            return blocks;
        }
    }

    /** What a change can change, and undo() restores. */
    private static final class Situation {
        private final Clues clues = new Clues();
        private final Layer marks = new Layer();
        private final Layer picture = new Layer();

        void copyFrom(Situation other) {
            clues.copyFrom(other.clues);
            marks.copyFrom(other.marks);
            picture.copyFrom(other.picture);
        }
    }

    /** The latest situations, in a ring. */
    private static final class History {
        private final Situation[] ring = new Situation[MOST_STATES];
        private int states;
        private int next;

        History() {
            for (int i = 0; i < MOST_STATES; i++) {
                ring[i] = new Situation();
            }
        }

        void record(Situation situation) {
            ring[next].copyFrom(situation);
            next = (next + 1) % MOST_STATES;
            states = Math.min(states + 1, MOST_STATES);
        }

        /** Gives back the latest situation; there is one. */
        void restore(Situation situation) {
            next = (next + MOST_STATES - 1) % MOST_STATES;
            states--;
            situation.copyFrom(ring[next]);
        }
    }

    /** The text, and the reading of clues from it. */
    private static final class ClueText {
        private final byte[] letters = new byte[MOST_LETTERS];
        private int length;
        private int at;

        void append(int letter) {
            if (length < MOST_LETTERS) {
                letters[length] = (byte) letter;
                length++;
            }
        }

        /** Reads the clues of all lines. Returns the fault of the text, or NONE. */
        int read(Clues clues, Grid grid) {
            clues.resetAll();
            at = 0;
            for (int line = 0; line < grid.lines(); line++) {
                if (line > 0) {
                    if (here() != ';') {
                        return at;
                    }
                    at++;
                }
                int fault = readClue(clues, line, grid);
                if (fault != NONE) {
                    return fault;
                }
            }
            return at < length ? at : NONE;
        }

        /** Reads a clue and the blanks around it. */
        private int readClue(Clues clues, int line, Grid grid) {
            skipBlanks();
            if (isSmall(here())) {
                return readWord(clues, line);
            }
            if (!isDigit(here())) {
                return at;
            }
            // The room ends a clue with more blocks than this.
            for (int i = 0; i <= SIDE && isDigit(here()); i++) {
                int fault = readBlock(clues, line, grid);
                if (fault != NONE) {
                    return fault;
                }
            }
            return NONE;
        }

        private int readWord(Clues clues, int line) {
            int begin = at;
            while (at < length && isSmall(letters[at])) {
                at++;
            }
            boolean any = isWord("any", begin);
            if (!any && !isWord("none", begin)) {
                return begin;
            }
            clues.reset(line, !any);
            skipBlanks();
            return NONE;
        }

        private int readBlock(Clues clues, int line, Grid grid) {
            int size = here() - '0';
            int color = 1;
            at++;
            int end = at;
            skipBlanks();
            if (isSmall(here())) {
                color = here() - 'a' + 1;
                if (color > grid.colors) {
                    return at;
                }
                at++;
                end = at;
                skipBlanks();
            }
            if (clues.roomWith(line, size, color) > grid.cellsOf(line)) {
                return end;
            }
            clues.append(line, size, color);
            return NONE;
        }

        /** The letter at the place of reading, or NONE behind the text. */
        private int here() {
            return at < length ? letters[at] : NONE;
        }

        private void skipBlanks() {
            while (at < length && letters[at] == ' ') {
                at++;
            }
        }

        /** Whether the letters from begin to the place of reading are this word. */
        private boolean isWord(String word, int begin) {
            if (at - begin != word.length()) {
                return false;
            }
            for (int i = 0; i < word.length(); i++) {
                if (letters[begin + i] != word.charAt(i)) {
                    return false;
                }
            }
            return true;
        }

        private static boolean isSmall(int letter) {
            return isWithin(letter, 'a', 'z');
        }

        private static boolean isDigit(int letter) {
            return isWithin(letter, '1', '8');
        }
    }

    /**
     * What the possible fillings of one line tell. Places in the line are bits: place i is before
     * cell i, and the last one is behind the last cell.
     */
    private static final class Fillings {
        private final Grid grid;
        private final Clues clues;
        private int line;
        private int size;
        private int cells;
        /** For each color the cells that can have it. */
        private final int[] can = new int[SHADES];
        private final int[] lengths = new int[SIDE];
        private final int[] colors = new int[SIDE];
        private final int[] gaps = new int[SIDE];
        /** The places before which the first blocks can all lie, for each number of them. */
        private final int[] front = new int[SIDE + 1];
        /** The places behind which the other blocks can then all lie. */
        private final int[] back = new int[SIDE + 1];
        /** For each block the cells at which it starts in possible fillings. */
        private final int[] starts = new int[SIDE];
        /** For each color the cells that could have it still when the line has been narrowed. */
        private final int[] left = new int[SHADES];
        private int[] ways = new int[SIDE + 1];
        private int[] nextWays = new int[SIDE + 1];

        Fillings(Grid grid, Clues clues) {
            this.grid = grid;
            this.clues = clues;
        }

        /** Looks at the fillings of a line that has a clue; returns whether there is one. */
        boolean examine(Layer marks, int which) {
            look(marks, which);
            placeFromFront();
            if ((front[size] >>> cells & 1) == 0) {
                return false;
            }
            placeFromBack();
            return true;
        }

        int earliest(int block) {
            return lowestBit(starts[block]);
        }

        int latest(int block) {
            return highestBit(starts[block]);
        }

        /** The number of possible fillings of a line. */
        int number(Layer marks, int which) {
            look(marks, which);
            if (!clues.has(which)) {
                return numberWithoutClue();
            }
            Arrays.fill(ways, 0);
            ways[0] = 1;
            for (int i = 1; i <= cells; i++) {
                ways[i] = emptyBefore(i) ? ways[i - 1] : 0;
            }
            for (int block = 0; block < size; block++) {
                addBlockWays(block);
                int[] used = ways;
                ways = nextWays;
                nextWays = used;
            }
            return ways[cells];
        }

        /** Narrows the line that was examined by overlap; returns the cells that this changes. */
        int narrowByOverlap() {
            int covered = 0;
            System.arraycopy(can, 0, left, 0, SHADES);
            for (int block = 0; block < size; block++) {
                int early = earliest(block);
                int late = latest(block);
                covered |= (1 << late + lengths[block]) - (1 << early);
                if (late < early + lengths[block]) {
                    leave(colors[block], (1 << early + lengths[block]) - (1 << late));
                }
            }
            leave(0, (1 << cells) - 1 & ~covered);
            return changed();
        }

        /** Narrows the line that was examined by fillings; returns the cells that this changes. */
        int narrowByFillings() {
            Arrays.fill(left, 0);
            for (int block = 0; block < size; block++) {
                int color = colors[block];
                for (int i = 0; i < lengths[block]; i++) {
                    left[color] |= starts[block] << i;
                }
            }
            for (int block = 0; block <= size; block++) {
                left[0] |= front[block] & back[block] >>> 1;
            }
            left[0] &= can[0];
            return changed();
        }

        /** The mark that a cell gets when the line is narrowed. */
        int markLeft(int cell) {
            int set = 0;
            for (int color = 0; color < SHADES; color++) {
                set |= (left[color] >>> cell & 1) << color;
            }
            return set;
        }

        /** Takes from the marks what has been narrowed away. */
        void applyTo(Layer marks) {
            for (int color = 0; color < SHADES; color++) {
                int gone = can[color] & ~left[color];
                if (gone != 0) {
                    marks.cells[color] &= ~grid.cellsAt(gone, line);
                }
            }
        }

        private void look(Layer marks, int which) {
            line = which;
            size = clues.sizes[which];
            cells = grid.cellsOf(which);
            for (int color = 0; color < SHADES; color++) {
                can[color] = grid.bitsOf(marks.cells[color], which);
            }
            for (int block = 0; block < size; block++) {
                lengths[block] = clues.lengthOf(which, block);
                colors[block] = clues.colorOf(which, block);
                gaps[block] = clues.gapBefore(which, block);
            }
        }

        private void placeFromFront() {
            front[0] = acrossEmpty(1);
            for (int block = 0; block < size; block++) {
                int places = gaps[block] == 0 ? front[block] : (front[block] & can[0]) << 1;
                starts[block] = places & runs(block);
                front[block + 1] = acrossEmpty(starts[block] << lengths[block]);
            }
        }

        private void placeFromBack() {
            back[size] = backAcrossEmpty(1 << cells);
            for (int block = size - 1; block >= 0; block--) {
                boolean gap = block + 1 < size && gaps[block + 1] != 0;
                int places = gap ? back[block + 1] >>> 1 & can[0] : back[block + 1];
                starts[block] &= places >>> lengths[block];
                back[block] = backAcrossEmpty(starts[block]);
            }
        }

        /** The cells from which on a block finds enough cells that can have its color. */
        private int runs(int block) {
            int color = can[colors[block]];
            int runs = color;
            for (int i = 1; i < lengths[block]; i++) {
                runs &= color >>> i;
            }
            return runs;
        }

        /** The places that are reached from places across cells that can be empty, by 8 steps in all. */
        private int acrossEmpty(int places) {
            int one = can[0];
            int two = one & one >>> 1;
            int four = two & two >>> 2;
            int reached = places | (places & one) << 1;
            reached |= (reached & two) << 2;
            reached |= (reached & four) << 4;
            return reached | (reached & one) << 1;
        }

        private int backAcrossEmpty(int places) {
            int one = can[0];
            int two = one & one >>> 1;
            int four = two & two >>> 2;
            int reached = places | places >>> 1 & one;
            reached |= reached >>> 2 & two;
            reached |= reached >>> 4 & four;
            return reached | reached >>> 1 & one;
        }

        private int numberWithoutClue() {
            int number = 1;
            for (int i = 0; i < cells; i++) {
                int colors = 0;
                for (int color = 0; color < SHADES; color++) {
                    colors += can[color] >>> i & 1;
                }
                number *= colors;
            }
            return number;
        }

        /** From the ways to fill each number of cells up to a block, finds those with the block. */
        private void addBlockWays(int block) {
            int runs = runs(block);
            nextWays[0] = 0;
            for (int i = 1; i <= cells; i++) {
                int start = i - lengths[block];
                int before = start - gaps[block];
                nextWays[i] = emptyBefore(i) ? nextWays[i - 1] : 0;
                if (before >= 0 && (runs >>> start & 1) != 0 && (before == start || emptyBefore(start))) {
                    nextWays[i] += ways[before];
                }
            }
        }

        private boolean emptyBefore(int place) {
            return place > 0 && (can[0] >>> place - 1 & 1) != 0;
        }

        /** Leaves some cells one color. */
        private void leave(int color, int where) {
            for (int other = 0; other < SHADES; other++) {
                if (other != color) {
                    left[other] &= ~where;
                }
            }
        }

        private int changed() {
            int changed = 0;
            for (int color = 0; color < SHADES; color++) {
                changed |= can[color] ^ left[color];
            }
            return changed;
        }
    }

    /** Narrows marks of its own, for which the clues of the puzzle count. */
    private static final class Narrower {
        private static final int ALL_TRIALS = MOST_CELLS * SHADES;

        private final Grid grid;
        private final Clues clues;
        private final Fillings fillings;
        private final Layer marks = new Layer();
        private final Layer kept = new Layer();

        Narrower(Grid grid, Clues clues, Fillings fillings) {
            this.grid = grid;
            this.clues = clues;
            this.fillings = fillings;
        }

        /**
         * Narrows some lines, and those that this touches, until nothing changes any more.
         * Returns false if one of them is or becomes wrong.
         */
        boolean settle(int lines, boolean byOverlap) {
            int open = lines & clues.clued;
            for (int step = 0; open != 0 && step < MANY_STEPS; step++) {
                int line = lowestBit(open);
                open &= open - 1;
                if (!fillings.examine(marks, line)) {
                    return false;
                }
                int changed = byOverlap ? fillings.narrowByOverlap() : fillings.narrowByFillings();
                if (changed != 0) {
                    fillings.applyTo(marks);
                    open |= grid.crossing(line, changed) & clues.clued;
                }
            }
            return true;
        }

        /** Whether a trial refutes a color, when only some lines are not known to be settled. */
        boolean refutes(int index, int color, int lines) {
            kept.copyFrom(marks);
            marks.put(1L << index, 1 << color);
            boolean settled = settle(lines | grid.linesOf(index), false);
            marks.copyFrom(kept);
            return !settled;
        }

        /** Narrows by trials. Returns false if a line is or becomes wrong. */
        boolean settleByTrials() {
            if (!settle(clues.clued, false)) {
                return false;
            }
            // Trials can end when none has refuted a color in a whole round since the last success.
            int quiet = 0;
            for (int step = 0; quiet < ALL_TRIALS && step < MANY_STEPS; step++) {
                int index = step % ALL_TRIALS / SHADES;
                int color = step % SHADES;
                quiet++;
                if (isOpen(index, color) && refutes(index, color, 0)) {
                    quiet = 0;
                    marks.cells[color] &= ~(1L << index);
                    if (!settle(grid.linesOf(index), false)) {
                        return false;
                    }
                }
            }
            return true;
        }

        /** Whether a cell is not known, and can have a color. */
        boolean isOpen(int index, int color) {
            return (marks.cells[color] & marks.doubtful() & 1L << index) != 0;
        }
    }

    /**
     * How far the cells of a line before some place have come in its clue. Written out, a clue has a sign for
     * each cell of its room: the color that the cell must have, or 0 between blocks of the same color. The
     * stage of a line is the number of the signs that are done with; the other cells before the place lie
     * empty beyond the room. What can follow depends on nothing else that is before the place. A line
     * without a clue stays at stage 0.
     *
     * Only stages of possible fillings count here. They are named by their ranks among those of the place.
     * At place p of n, with the room r, there are at most 1 + min(p, n - p, r, n - r) of them.
     */
    private static final class Stages {
        private static final int PLACES = SIDE + 1;
        private static final int MOST_RANKS = SIDE / 2 + 1;

        private final Grid grid;
        private final Clues clues;
        /** For each color the stages, as bits, from which a cell of it leads to the next stage. */
        private final int[] onward = new int[SHADES];
        /** For each color the stages at which a cell of it changes nothing. */
        private final int[] staying = new int[SHADES];
        /** For each color the cells of a line that can have it. */
        private final int[] can = new int[SHADES];
        /** For each place of a line the stages that it can have there. */
        private final int[] possible = new int[PLACES];
        private final int[] numbers = new int[MOST_LINES * PLACES];
        /** For each cell of a line and each stage before it the colors that it can have, as bits. */
        private final int[] colorsAt = new int[MOST_LINES * SIDE * MOST_RANKS];
        private final int[] ranksAfter = new int[MOST_LINES * SIDE * MOST_RANKS * SHADES];

        Stages(Grid grid, Clues clues) {
            this.grid = grid;
            this.clues = clues;
        }

        /** Finds the stages of all lines in the fillings that marks leave possible. */
        void find(Layer marks) {
            for (int line = 0; line < grid.lines(); line++) {
                spell(line);
                for (int color = 0; color < SHADES; color++) {
                    can[color] = grid.bitsOf(marks.cells[color], line);
                }
                findPossible(line);
                for (int place = 0; place < PLACES; place++) {
                    numbers[PLACES * line + place] = Integer.bitCount(possible[place]);
                }
                for (int cell = 0; cell < grid.cellsOf(line); cell++) {
                    tabulate(line, cell);
                }
            }
        }

        /** The number of stages that a line can have at a place. */
        int number(int line, int place) {
            return numbers[PLACES * line + place];
        }

        /** The colors that a cell of a line can have behind a stage. */
        int colorsAfter(int line, int cell, int rank) {
            return colorsAt[(SIDE * line + cell) * MOST_RANKS + rank];
        }

        /** The stage of a line behind a cell with a color that it can have behind a stage. */
        int rankAfter(int line, int cell, int rank, int color) {
            return ranksAfter[((SIDE * line + cell) * MOST_RANKS + rank) * SHADES + color];
        }

        /** Finds what each color means at each stage of a line. */
        private void spell(int line) {
            int stage = 0;
            Arrays.fill(onward, 0);
            Arrays.fill(staying, clues.has(line) ? 0 : 1);
            staying[0] = (2 << clues.rooms[line]) - 1;
            for (int block = 0; block < clues.sizes[line]; block++) {
                if (clues.gapBefore(line, block) != 0) {
                    onward[0] |= 1 << stage;
                    staying[0] &= ~(1 << stage);
                    stage++;
                }
                int length = clues.lengthOf(line, block);
                onward[clues.colorOf(line, block)] |= (1 << length) - 1 << stage;
                // An empty cell can lie before the block, but not within it.
                staying[0] &= ~((1 << length) - 2 << stage);
                stage += length;
            }
        }

        private void findPossible(int line) {
            int cells = grid.cellsOf(line);
            Arrays.fill(possible, 0);
            possible[0] = 1;
            for (int cell = 0; cell < cells; cell++) {
                possible[cell + 1] = behind(possible[cell], cell);
            }
            possible[cells] &= 1 << clues.rooms[line];
            for (int cell = cells - 1; cell >= 0; cell--) {
                possible[cell] &= ahead(possible[cell + 1], cell);
            }
        }

        /** The stages behind a cell that follow one of some stages before it. */
        private int behind(int stages, int cell) {
            int behind = 0;
            for (int color = 0; color < SHADES; color++) {
                if ((can[color] >>> cell & 1) != 0) {
                    behind |= following(stages, color);
                }
            }
            return behind;
        }

        private int following(int stages, int color) {
            return (stages & onward[color]) << 1 | stages & staying[color];
        }

        /** The stages before a cell that one of some stages behind it follows. */
        private int ahead(int stages, int cell) {
            int ahead = 0;
            for (int color = 0; color < SHADES; color++) {
                if ((can[color] >>> cell & 1) != 0) {
                    ahead |= stages >>> 1 & onward[color] | stages & staying[color];
                }
            }
            return ahead;
        }

        private void tabulate(int line, int cell) {
            int left = possible[cell];
            for (int rank = 0; rank < MOST_RANKS && left != 0; rank++) {
                int at = (SIDE * line + cell) * MOST_RANKS + rank;
                int stage = left & -left;
                left ^= stage;
                colorsAt[at] = 0;
                for (int color = 0; color < SHADES; color++) {
                    int next = following(stage, color) & possible[cell + 1];
                    if (next != 0 && (can[color] >>> cell & 1) != 0) {
                        colorsAt[at] |= 1 << color;
                        ranksAfter[at * SHADES + color] = Integer.bitCount(possible[cell + 1] & next - 1);
                    }
                }
            }
        }
    }

    /**
     * Looks for solutions in the marks of the narrower: goes through the cells in row-major order, and gives
     * each of them its colors in ascending order. This way the first solution that is found is the one
     * with the least sequence of colors.
     *
     * What the cells from one on can be depends only on the stages of the columns and of the row before it.
     * There is a bit for each cell with each such sum of stages, and it is set when no solution was found from
     * there on. So none is gone through twice in vain, and the search ends by itself, whatever the
     * clues and marks are.
     */
    private static final class Search {
        private static final int FEW_WORDS = 256;
        /**
         * Far above the steps of any search. Eight lines of five stages at most each make fewer than 10
         * million sums at all cells. One of them takes five steps, but is gone through again only if
         * it is on the way to a solution; those are 64 for each of 99 solutions.
         */
        private static final int MANY_TRIES = 1_000_000_000;

        private final Grid grid;
        private final Clues clues;
        private final Narrower narrower;
        private final Stages stages;
        private final Layer first = new Layer();
        /** The bits of the sums that lead to no solution. It grows when a puzzle has more sums. */
        private long[] dead = new long[FEW_WORDS];
        /** For each cell the bit of its first sum, and how many sums the columns but its own have. */
        private final int[] offsets = new int[MOST_CELLS];
        private final int[] weights = new int[MOST_CELLS];
        /** The stages of the columns, as ranks. */
        private final int[] columns = new int[SIDE];
        /** For each cell the stages of its row, of its column and of all columns before it. */
        private final int[] rowsBefore = new int[MOST_CELLS];
        private final int[] columnsBefore = new int[MOST_CELLS];
        private final int[] columnSums = new int[MOST_CELLS];
        /** For each cell the colors that are still to be tried, and the one that it has. */
        private final int[] colorsLeft = new int[MOST_CELLS];
        private final int[] colors = new int[MOST_CELLS];
        private final int[] foundBefore = new int[MOST_CELLS];
        private int found;

        Search(Grid grid, Clues clues, Narrower narrower) {
            this.grid = grid;
            this.clues = clues;
            this.narrower = narrower;
            stages = new Stages(grid, clues);
        }

        /** Returns the number of solutions, at most `most`; keeps the first one. */
        int run(int most) {
            found = 0;
            if (!narrower.settle(clues.clued, false)) {
                return 0;
            }
            stages.find(narrower.marks);
            forget(layOut());
            Arrays.fill(columns, 0);
            enter(0, 0, 0);
            int index = 0;
            for (int tries = 0; index != NONE && found < most && tries < MANY_TRIES; tries++) {
                index = colorsLeft[index] != 0 ? tryNextColor(index) : leave(index);
            }
            return found;
        }

        /** Gives each sum a bit. Returns the number of bits. */
        private int layOut() {
            int bits = 0;
            for (int y = 0; y < grid.height; y++) {
                for (int x = 0; x < grid.width; x++) {
                    int weight = 1;
                    for (int column = 0; column < grid.width; column++) {
                        weight *= column == x ? 1 : stages.number(grid.height + column, column < x ? y + 1 : y);
                    }
                    offsets[Grid.index(x, y)] = bits;
                    weights[Grid.index(x, y)] = weight;
                    bits += weight * stages.number(grid.height + x, y) * stages.number(y, x);
                }
            }
            return bits;
        }

        private void forget(int bits) {
            int words = (bits >>> 6) + 1;
            if (words > dead.length) {
                // At least doubled, so that all the tables of an object take little more than the greatest.
                dead = new long[Math.max(words, 2 * dead.length)];
            } else {
                Arrays.fill(dead, 0, words, 0);
            }
        }

        /** The bit of the stages before a cell. */
        private int bitOf(int index, int columnSum, int row) {
            return offsets[index] + columnSum * stages.number(Grid.yOf(index), Grid.xOf(index)) + row;
        }

        /** Gives a cell its next color. Returns the cell that is the next to get one. */
        private int tryNextColor(int index) {
            int x = Grid.xOf(index);
            int y = Grid.yOf(index);
            int line = grid.height + x;
            int color = lowestBit(colorsLeft[index]);
            colorsLeft[index] &= colorsLeft[index] - 1;
            colors[index] = color;
            int next = grid.indexAfter(index);
            if (Grid.yOf(next) >= grid.height) {
                addSolution();
                return index;
            }
            columns[x] = stages.rankAfter(line, y, columnsBefore[index], color);
            // The columns are summed up from the one of the cell on, which goes behind all others now.
            int others = columnSums[index] - columnsBefore[index] * weights[index];
            int columnSum = others * stages.number(line, y + 1) + columns[x];
            return enter(next, columnSum, stages.rankAfter(y, x, rowsBefore[index], color)) ? next : index;
        }

        /** Begins with the colors of a cell, unless it is known that they lead to no solution. */
        private boolean enter(int index, int columnSum, int row) {
            int bit = bitOf(index, columnSum, row);
            int word = bit >>> 6;
            if (word < dead.length && (dead[word] >>> bit & 1) != 0) {
                return false;
            }
            int x = Grid.xOf(index);
            int y = Grid.yOf(index);
            rowsBefore[index] = row;
            columnsBefore[index] = columns[x];
            columnSums[index] = columnSum;
            colorsLeft[index] = stages.colorsAfter(grid.height + x, y, columns[x]) & stages.colorsAfter(y, x, row);
            foundBefore[index] = found;
            return true;
        }

        /** Ends with the colors of a cell. Returns the cell before it, or NONE. */
        private int leave(int index) {
            if (foundBefore[index] == found) {
                int bit = bitOf(index, columnSums[index], rowsBefore[index]);
                int word = bit >>> 6;
                if (word < dead.length) {
                    dead[word] |= 1L << bit;
                }
            }
            columns[Grid.xOf(index)] = columnsBefore[index];
            return grid.indexBefore(index);
        }

        /** Counts the solution whose cells have the colors that they were given last. */
        private void addSolution() {
            if (found == 0) {
                first.put(-1L, 0);
                for (int y = 0; y < grid.height; y++) {
                    for (int x = 0; x < grid.width; x++) {
                        first.put(Grid.cell(x, y), 1 << colors[Grid.index(x, y)]);
                    }
                }
            }
            found++;
        }
    }

    /** The hint that is kept, and the search for the next one. */
    private static final class Advice {
        private final Grid grid;
        private final Clues clues;
        private final Fillings fillings;
        private final Narrower narrower;
        private final int[] numbers = new int[MOST_LINES];
        /** 0 if there is no hint. */
        private int level;
        private int index;
        private int mark;
        private int line;

        Advice(Grid grid, Clues clues, Fillings fillings, Narrower narrower) {
            this.grid = grid;
            this.clues = clues;
            this.fillings = fillings;
            this.narrower = narrower;
        }

        void rankLines(Layer marks) {
            for (int i = 0; i < grid.lines(); i++) {
                numbers[i] = clues.has(i) ? fillings.number(marks, i) : 0;
            }
        }

        /** Looks for a hint in the ranked lines, none of which is wrong; keeps it if there is one. */
        boolean seekInLines(Layer marks, int newLevel) {
            int open = clues.clued;
            for (int i = 0; i < MOST_LINES && open != 0; i++) {
                int easiest = easiest(open);
                open &= ~(1 << easiest);
                fillings.examine(marks, easiest);
                int changed = newLevel == 1 ? fillings.narrowByOverlap() : fillings.narrowByFillings();
                if (changed != 0) {
                    int cell = lowestBit(changed);
                    keep(newLevel, lowestBit(grid.cellOf(easiest, cell)), fillings.markLeft(cell), easiest);
                    return true;
                }
            }
            return false;
        }

        /** Among some lines, the first one of those with the fewest possible fillings. */
        private int easiest(int lines) {
            int easiest = lowestBit(lines);
            for (int i = easiest + 1; i < MOST_LINES; i++) {
                if ((lines >>> i & 1) != 0 && numbers[i] < numbers[easiest]) {
                    easiest = i;
                }
            }
            return easiest;
        }

        /** Looks for a hint in marks that fillings do not narrow; keeps it if there is one. */
        boolean seekByTrials(Layer marks) {
            narrower.marks.copyFrom(marks);
            for (int i = 0; i < MOST_CELLS; i++) {
                for (int color = 0; color < SHADES; color++) {
                    if (narrower.isOpen(i, color) && narrower.refutes(i, color, 0)) {
                        keep(3, i, marks.colorsAt(1L << i) & ~(1 << color), NONE);
                        return true;
                    }
                }
            }
            return false;
        }

        private void keep(int newLevel, int newIndex, int newMark, int newLine) {
            level = newLevel;
            index = newIndex;
            mark = newMark;
            line = newLine;
        }
    }
}
