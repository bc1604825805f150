import java.util.ArrayDeque;
import java.util.ArrayList;
import java.util.Arrays;
import java.util.Deque;
import java.util.List;

/**
 * The document's words, taken as literally as can be and without any thought of speed: all
 * fillings of a line are listed, and everything else is told from the lists. The random runs
 * compare PictureClues with it.
 */
final class SlowClues {
    static final int NONE = -1, BAD = -2, STATE = -3, WRONG = -4;

    /** A clue as {length, color, length, color, ..}, null for none. */
    private int[][] clues;
    private int[][] marks;
    private int[][] picture;
    private int w, h, colors;
    private String text = "";
    private int[] hint;
    private final Deque<Object[]> history = new ArrayDeque<>();

    SlowClues() {
        start(5, 5, 1);
    }

    int start(int width, int height, int colorCount) {
        if (width < 1 || width > 8 || height < 1 || height > 8 || colorCount < 1 || colorCount > 3) {
            return BAD;
        }
        w = width;
        h = height;
        colors = colorCount;
        clues = new int[w + h][];
        marks = new int[h][w];
        for (int[] row : marks) {
            Arrays.fill(row, full());
        }
        picture = new int[h][w];
        history.clear();
        hint = null;
        return w + h;
    }

    int addBlock(int line, int length, int color) {
        if (badLine(line) || length < 1 || length > 8 || color < 1 || color > colors) {
            return BAD;
        }
        int[] longer = appended(clues[line], length, color);
        if (room(longer) > cells(line)) {
            return STATE;
        }
        record();
        clues[line] = longer;
        return longer.length / 2;
    }

    int setClue(int line, boolean has) {
        if (badLine(line)) {
            return BAD;
        }
        int before = clues[line] == null ? 0 : 1;
        record();
        clues[line] = has ? new int[0] : null;
        return before;
    }

    int line(int line, int what) {
        if (badLine(line) || what < 0 || what > 4) {
            return BAD;
        }
        switch (what) {
            case 0: return clues[line] == null ? NONE : clues[line].length / 2;
            case 1: return clues[line] == null ? 0 : room(clues[line]);
            case 2: return fillings(line, marks).size();
            case 3: {
                int known = 0;
                for (int i = 0; i < cells(line); i++) {
                    known += Integer.bitCount(get(marks, line, i)) == 1 ? 1 : 0;
                }
                return known;
            }
            default: return wrong(line, marks) ? 1 : 0;
        }
    }

    int block(int line, int block, int what) {
        if (badLine(line) || clues[line] == null || block < 0 || block >= clues[line].length / 2
                || what < 0 || what > 3) {
            return BAD;
        }
        if (what < 2) {
            return clues[line][2 * block + what];
        }
        if (wrong(line, marks)) {
            return NONE;
        }
        return startsOf(line, block, marks)[what - 2];
    }

    int paint(int x, int y, int width, int height, int color) {
        if (badCell(x, y) || width < 1 || height < 1 || (long) x + width > w || (long) y + height > h
                || color < 0 || color > colors) {
            return BAD;
        }
        record();
        int different = 0;
        for (int i = x; i < x + width; i++) {
            for (int j = y; j < y + height; j++) {
                different += picture[j][i] != color ? 1 : 0;
                picture[j][i] = color;
            }
        }
        return different;
    }

    int takeClues() {
        record();
        int blocks = 0;
        for (int line = 0; line < w + h; line++) {
            int[] filling = new int[cells(line)];
            for (int i = 0; i < filling.length; i++) {
                filling[i] = get(picture, line, i);
            }
            clues[line] = runs(filling);
            blocks += line < h ? clues[line].length / 2 : 0;
        }
        return blocks;
    }

    int picture(int x, int y) {
        return badCell(x, y) ? BAD : picture[y][x];
    }

    int type(int letter) {
        if (letter < 0 || letter > 127) {
            return BAD;
        }
        if (text.length() == 120) {
            return STATE;
        }
        text += (char) letter;
        return text.length();
    }

    int clear() {
        int before = text.length();
        text = "";
        return before;
    }

    int load() {
        List<int[]> read = new ArrayList<>();
        int fault = read(read);
        if (fault >= 0) {
            return -2000 - fault;
        }
        record();
        int blocks = 0;
        for (int line = 0; line < w + h; line++) {
            clues[line] = read.get(line);
            blocks += clues[line] == null ? 0 : clues[line].length / 2;
        }
        text = "";
        return blocks;
    }

    int setMark(int x, int y, int which) {
        if (badCell(x, y) || which < 1 || which > full()) {
            return BAD;
        }
        record();
        int before = marks[y][x];
        marks[y][x] = which;
        return before;
    }

    int mark(int x, int y) {
        return badCell(x, y) ? BAD : marks[y][x];
    }

    int clearMarks() {
        record();
        int different = 0;
        for (int[] row : marks) {
            for (int x = 0; x < w; x++) {
                different += row[x] != full() ? 1 : 0;
                row[x] = full();
            }
        }
        return different;
    }

    int narrow(int level) {
        if (level < 1 || level > 3) {
            return BAD;
        }
        int[][] narrowed = copy(marks);
        if (!narrow(narrowed, level)) {
            return WRONG;
        }
        record();
        int different = 0;
        for (int y = 0; y < h; y++) {
            for (int x = 0; x < w; x++) {
                different += marks[y][x] != narrowed[y][x] ? 1 : 0;
            }
        }
        marks = narrowed;
        return different;
    }

    int trial(int x, int y, int color) {
        if (badCell(x, y) || color < 0 || color > colors) {
            return BAD;
        }
        if (Integer.bitCount(marks[y][x]) == 1 || (marks[y][x] & 1 << color) == 0) {
            return STATE;
        }
        return refutes(marks, x, y, color) ? 1 : 0;
    }

    int solutions(int most) {
        if (most < 1 || most > 99) {
            return BAD;
        }
        return solutionsOf(marks, most).size();
    }

    int solve() {
        List<int[][]> found = solutionsOf(marks, 1);
        if (found.isEmpty()) {
            return NONE;
        }
        record();
        picture = found.get(0);
        return count(7);
    }

    int difficulty() {
        int[][] fullMarks = new int[h][w];
        for (int[] row : fullMarks) {
            Arrays.fill(row, full());
        }
        int found = solutionsOf(fullMarks, 2).size();
        if (found != 1) {
            return found == 0 ? 0 : 5;
        }
        for (int level = 1; level <= 3; level++) {
            int[][] narrowed = copy(fullMarks);
            if (narrow(narrowed, level) && known(narrowed) == w * h) {
                return level;
            }
        }
        return 4;
    }

    int mistakes() {
        int mistakes = 0;
        for (int y = 0; y < h; y++) {
            for (int x = 0; x < w; x++) {
                mistakes += (marks[y][x] & 1 << picture[y][x]) == 0 ? 1 : 0;
            }
        }
        return mistakes;
    }

    int hint() {
        List<int[]> order = new ArrayList<>();
        for (int line = 0; line < w + h; line++) {
            if (wrong(line, marks)) {
                return WRONG;
            }
            if (clues[line] != null) {
                order.add(new int[] {fillings(line, marks).size(), line});
            }
        }
        order.sort((a, b) -> a[0] != b[0] ? a[0] - b[0] : a[1] - b[1]);
        for (int level = 1; level <= 2; level++) {
            for (int[] entry : order) {
                int line = entry[1];
                int[] after = narrowed(line, marks, level);
                for (int i = 0; i < cells(line); i++) {
                    if (after[i] != get(marks, line, i)) {
                        hint = new int[] {level, line < h ? i : line - h, line < h ? line : i, after[i], line};
                        return level;
                    }
                }
            }
        }
        for (int y = 0; y < h; y++) {
            for (int x = 0; x < w; x++) {
                for (int color = 0; color <= colors; color++) {
                    if (Integer.bitCount(marks[y][x]) > 1 && (marks[y][x] & 1 << color) != 0
                            && refutes(marks, x, y, color)) {
                        hint = new int[] {3, x, y, marks[y][x] & ~(1 << color), NONE};
                        return 3;
                    }
                }
            }
        }
        return NONE;
    }

    int hinted(int what) {
        return what < 0 || what > 4 ? BAD : hint == null ? STATE : hint[what];
    }

    int takeHint() {
        if (hint == null || (marks[hint[2]][hint[1]] & hint[3]) == 0) {
            return STATE;
        }
        record();
        marks[hint[2]][hint[1]] &= hint[3];
        return marks[hint[2]][hint[1]];
    }

    int undo() {
        if (history.isEmpty()) {
            return STATE;
        }
        Object[] state = history.removeLast();
        clues = (int[][]) state[0];
        marks = (int[][]) state[1];
        picture = (int[][]) state[2];
        return history.size();
    }

    int count(int what) {
        int count = 0;
        switch (what) {
            case 0: return w;
            case 1: return h;
            case 2: return colors;
            case 3:
                for (int[] clue : clues) {
                    count += clue != null ? 1 : 0;
                }
                return count;
            case 4: return known(marks);
            case 5:
                for (int line = 0; line < w + h; line++) {
                    count += wrong(line, marks) ? 1 : 0;
                }
                return count;
            case 6:
                for (int[] clue : clues) {
                    count += clue != null ? clue.length / 2 : 0;
                }
                return count;
            case 7:
                for (int[] row : picture) {
                    for (int color : row) {
                        count += color != 0 ? 1 : 0;
                    }
                }
                return count;
            case 8: return history.size();
            case 9: return text.length();
            case 10:
                for (int line = 0; line < w + h; line++) {
                    int[] filling = new int[cells(line)];
                    for (int i = 0; i < filling.length; i++) {
                        filling[i] = get(picture, line, i);
                    }
                    count += clues[line] != null && Arrays.equals(runs(filling), clues[line]) ? 1 : 0;
                }
                return count;
            default: return BAD;
        }
    }

    long digest() {
        List<Long> numbers = new ArrayList<>();
        for (int what = 0; what <= 10; what++) {
            numbers.add((long) count(what));
        }
        for (int l = 0; l < w + h; l++) {
            for (int what = 0; what <= 4; what++) {
                numbers.add((long) line(l, what));
            }
            for (int b = 0; clues[l] != null && b < clues[l].length / 2; b++) {
                for (int what = 0; what <= 3; what++) {
                    numbers.add((long) block(l, b, what));
                }
            }
        }
        for (int y = 0; y < h; y++) {
            for (int x = 0; x < w; x++) {
                numbers.add((long) marks[y][x]);
                numbers.add((long) picture[y][x]);
            }
        }
        for (int what = 0; hint != null && what <= 4; what++) {
            numbers.add((long) hint[what]);
        }
        for (char letter : text.toCharArray()) {
            numbers.add((long) letter);
        }
        long hash = 633;
        for (long number : numbers) {
            hash = 31 * hash + number;
        }
        return hash;
    }

    // ---- lines

    private boolean badLine(int line) {
        return line < 0 || line >= w + h;
    }

    private boolean badCell(int x, int y) {
        return x < 0 || x >= w || y < 0 || y >= h;
    }

    private int full() {
        return (1 << (colors + 1)) - 1;
    }

    private int cells(int line) {
        return line < h ? w : h;
    }

    private int get(int[][] of, int line, int i) {
        return line < h ? of[line][i] : of[i][line - h];
    }

    private static int[][] copy(int[][] of) {
        int[][] copy = new int[of.length][];
        for (int i = 0; i < of.length; i++) {
            copy[i] = of[i] == null ? null : of[i].clone();
        }
        return copy;
    }

    private void record() {
        if (history.size() == 8) {
            history.removeFirst();
        }
        history.addLast(new Object[] {copy(clues), copy(marks), copy(picture)});
    }

    private static int[] appended(int[] clue, int length, int color) {
        int size = clue == null ? 0 : clue.length;
        int[] longer = clue == null ? new int[2] : Arrays.copyOf(clue, size + 2);
        longer[size] = length;
        longer[size + 1] = color;
        return longer;
    }

    private static int room(int[] clue) {
        int room = 0;
        for (int i = 0; i < clue.length; i += 2) {
            room += clue[i] + (i > 0 && clue[i + 1] == clue[i - 1] ? 1 : 0);
        }
        return room;
    }

    private static int[] runs(int[] filling) {
        int[] runs = new int[0];
        for (int i = 0; i < filling.length; i++) {
            if (filling[i] != 0) {
                if (i > 0 && filling[i - 1] == filling[i]) {
                    runs[runs.length - 2]++;
                } else {
                    runs = appended(runs, 1, filling[i]);
                }
            }
        }
        return runs;
    }

    private List<int[]> fillings(int line, int[][] of) {
        List<int[]> possible = new ArrayList<>();
        list(line, of, new int[cells(line)], 0, possible);
        return possible;
    }

    private void list(int line, int[][] of, int[] filling, int from, List<int[]> possible) {
        if (from == filling.length) {
            if (clues[line] == null || Arrays.equals(runs(filling), clues[line])) {
                possible.add(filling.clone());
            }
            return;
        }
        for (int color = 0; color <= colors; color++) {
            if ((get(of, line, from) & 1 << color) != 0) {
                filling[from] = color;
                list(line, of, filling, from + 1, possible);
            }
        }
    }

    private boolean wrong(int line, int[][] of) {
        return clues[line] != null && fillings(line, of).isEmpty();
    }

    /** The earliest and the latest start of a block of a line that is not wrong. */
    private int[] startsOf(int line, int block, int[][] of) {
        int[] starts = {99, -1};
        for (int[] filling : fillings(line, of)) {
            int run = -1;
            for (int i = 0; i < filling.length; i++) {
                if (filling[i] != 0 && (i == 0 || filling[i - 1] != filling[i])) {
                    run++;
                    if (run == block) {
                        starts[0] = Math.min(starts[0], i);
                        starts[1] = Math.max(starts[1], i);
                    }
                }
            }
        }
        return starts;
    }

    // ---- narrowing

    /** The marks that a line gets by overlap (level 1) or by fillings (level 2). */
    private int[] narrowed(int line, int[][] of, int level) {
        int[] after = new int[cells(line)];
        if (level == 2) {
            for (int[] filling : fillings(line, of)) {
                for (int i = 0; i < after.length; i++) {
                    after[i] |= 1 << filling[i];
                }
            }
            return after;
        }
        boolean[] covered = new boolean[after.length];
        for (int i = 0; i < after.length; i++) {
            after[i] = get(of, line, i);
        }
        for (int b = 0; b < clues[line].length / 2; b++) {
            int[] starts = startsOf(line, b, of);
            int length = clues[line][2 * b];
            for (int i = starts[1]; i <= starts[0] + length - 1; i++) {
                after[i] = 1 << clues[line][2 * b + 1];
            }
            for (int i = starts[0]; i <= starts[1] + length - 1; i++) {
                covered[i] = true;
            }
        }
        for (int i = 0; i < after.length; i++) {
            if (!covered[i]) {
                after[i] = 1;
            }
        }
        return after;
    }

    private boolean narrow(int[][] of, int level) {
        boolean changed = true;
        while (changed) {
            changed = false;
            for (int line = w + h - 1; line >= 0; line--) {
                if (clues[line] == null) {
                    continue;
                }
                if (wrong(line, of)) {
                    return false;
                }
                int[] after = narrowed(line, of, Math.min(level, 2));
                for (int i = 0; i < after.length; i++) {
                    if (after[i] != get(of, line, i)) {
                        changed = true;
                        if (line < h) {
                            of[line][i] = after[i];
                        } else {
                            of[i][line - h] = after[i];
                        }
                    }
                }
            }
            if (!changed && level == 3) {
                changed = removeRefuted(of);
            }
            for (int[] row : of) {
                for (int set : row) {
                    if (set == 0) {
                        return false;
                    }
                }
            }
        }
        return true;
    }

    private boolean removeRefuted(int[][] of) {
        for (int y = h - 1; y >= 0; y--) {
            for (int x = 0; x < w; x++) {
                for (int color = colors; color >= 0; color--) {
                    if (Integer.bitCount(of[y][x]) > 1 && (of[y][x] & 1 << color) != 0 && refutes(of, x, y, color)) {
                        of[y][x] &= ~(1 << color);
                        return true;
                    }
                }
            }
        }
        return false;
    }

    private boolean refutes(int[][] of, int x, int y, int color) {
        int[][] tried = copy(of);
        tried[y][x] = 1 << color;
        return !narrow(tried, 2);
    }

    private int known(int[][] of) {
        int known = 0;
        for (int[] row : of) {
            for (int set : row) {
                known += Integer.bitCount(set) == 1 ? 1 : 0;
            }
        }
        return known;
    }

    // ---- solutions

    private List<int[][]> solutionsOf(int[][] of, int most) {
        List<int[][]> found = new ArrayList<>();
        List<List<int[]>> rows = new ArrayList<>();
        List<List<int[]>> columns = new ArrayList<>();
        for (int line = 0; line < w + h; line++) {
            (line < h ? rows : columns).add(line < h || clues[line] != null ? fillings(line, of) : null);
        }
        solve(0, new int[h][], rows, columns, most, found);
        return found;
    }

    /** Takes each possible filling of a row, as long as each column with a clue has one left. */
    private void solve(int y, int[][] tried, List<List<int[]>> rows, List<List<int[]>> columns, int most,
            List<int[][]> found) {
        if (y == h) {
            found.add(copy(tried));
            return;
        }
        for (int[] filling : rows.get(y)) {
            List<List<int[]>> fewer = new ArrayList<>();
            boolean possible = true;
            for (int x = 0; x < w && possible; x++) {
                List<int[]> column = columns.get(x);
                List<int[]> agreeing = column == null ? null : new ArrayList<>();
                for (int i = 0; column != null && i < column.size(); i++) {
                    if (column.get(i)[y] == filling[x]) {
                        agreeing.add(column.get(i));
                    }
                }
                possible = agreeing == null || !agreeing.isEmpty();
                fewer.add(agreeing);
            }
            if (possible) {
                tried[y] = filling;
                solve(y + 1, tried, rows, fewer, most, found);
                if (found.size() >= most) {
                    return;
                }
            }
        }
    }

    // ---- texts

    /** Goes through the text letter by letter; returns the fault, or -1. */
    private int read(List<int[]> into) {
        char state = 's'; // s: at the begin of a clue, w: behind a word, d: behind a digit, b: behind a letter
        int[] clue = null;
        int digit = 0;
        int digitEnd = 0;
        for (int p = 0; p < text.length(); p++) {
            char c = text.charAt(p);
            boolean small = c >= 'a' && c <= 'z';
            if (c == ' ') {
                continue;
            }
            if (state == 'd') {
                if (small) {
                    if (c - 'a' >= colors) {
                        return p;
                    }
                    clue = appended(clue, digit, c - 'a' + 1);
                    if (room(clue) > cells(into.size())) {
                        return p + 1;
                    }
                    state = 'b';
                    continue;
                }
                clue = appended(clue, digit, 1);
                if (room(clue) > cells(into.size())) {
                    return digitEnd;
                }
                state = 'b';
            }
            if (state == 's' && small) {
                int end = p;
                while (end < text.length() && text.charAt(end) >= 'a' && text.charAt(end) <= 'z') {
                    end++;
                }
                String word = text.substring(p, end);
                if (!word.equals("any") && !word.equals("none")) {
                    return p;
                }
                clue = word.equals("any") ? null : new int[0];
                state = 'w';
                p = end - 1;
            } else if ((state == 's' || state == 'b') && c >= '1' && c <= '8') {
                digit = c - '0';
                digitEnd = p + 1;
                state = 'd';
            } else if ((state == 'w' || state == 'b') && c == ';' && into.size() < w + h - 1) {
                into.add(clue);
                clue = null;
                state = 's';
            } else {
                return p;
            }
        }
        if (state == 'd') {
            clue = appended(clue, digit, 1);
            if (room(clue) > cells(into.size())) {
                return digitEnd;
            }
        }
        if (state == 's' || into.size() < w + h - 1) {
            return text.length();
        }
        into.add(clue);
        return -1;
    }
}
