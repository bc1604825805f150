import java.util.Arrays;
import java.util.HashMap;
import java.util.Map;
import java.util.Random;

/**
 * Promises 18 to 20 for puzzles of up to 8 by 8 cells, for which the slow model takes too long:
 * here solutions are counted cell by cell, with the counts kept for equal states of all lines.
 */
public final class GreatPuzzlesTest {
    private static final int MOST = 99;

    /** Puzzles that are hard to search: the colors, the clues, and marks as x, y and the set. */
    private static final String[] HARD = {
        "1/1;any;any;1 1;1;1 1 1 1;2 1 1;1 1;1 1;any;1 1;1 1;1 1;1 2;1 1;2 1/7 2 2,4 6 1",
        "1/1 1 1;any;1 1;any;1 1;1 1 1;3 1;1 2;1 1;1 1;1 1 1;any;2 1 1;2;1 1 1;2 1/2 2 1,7 2 2,3 3 1",
        "1/any;any;1 1;1 1;1 1 1 1;1 2 1;2 1 1;1;any;1 2;1 1;1 1;1 1 1;1 1;1 1 1;1 2/7 7 1",
        "1/any;any;any;any;1;1 2;1 1;1 1 1;1 1;1;2;2 1;1 2;1 2;1 2;2 1/0 6 2",
        "1/any;any;any;any;1;1 3;3 2;1 2 1;1 1;1 2;1 2;1 1;1 1 1;1 2;1 1;any/",
    };

    /** Seeds of puzzles whose searches meet lines with as many blocks, but with other runs. */
    private static final long[] SEEDS = {103565, 203657, 301190, 500145};

    /** How far all lines have come before a cell. */
    private record State(int cell, long columns, int row) {
    }

    private PictureClues x;
    private final Map<State, Integer> counts = new HashMap<>();
    private int[][][] clues;
    private int w, h, colors;

    public static void main(String[] args) {
        GreatPuzzlesTest test = new GreatPuzzlesTest();
        if (args.length > 0 && args[0].contains("/")) {
            test.compareHard(args[0]);
            Due.end();
            return;
        }
        int puzzles = args.length > 0 ? Integer.parseInt(args[0]) : 400;
        long from = args.length > 1 ? Long.parseLong(args[1]) : 0;
        for (String hard : HARD) {
            test.compareHard(hard);
        }
        for (long seed : SEEDS) {
            test.compareByChance(seed);
        }
        for (long seed = from; seed < from + puzzles; seed++) {
            test.compareByChance(seed);
        }
        Due.end();
    }

    private void compareHard(String hard) {
        x = new PictureClues();
        Puzzles.start(x, hard);
        compare(hard);
    }

    private void compareByChance(long seed) {
        makeByChance(new Random(seed));
        compare("seed " + seed);
    }

    private void makeByChance(Random random) {
        x = new PictureClues();
        x.start(5 + random.nextInt(4), 5 + random.nextInt(4), 1 + random.nextInt(3));
        int width = x.count(0);
        int height = x.count(1);
        int palette = x.count(2);
        int lines = width + height;
        int density = 10 + random.nextInt(80);
        for (int i = 0; i < width * height; i++) {
            x.paint(i % width, i / width, 1, 1, random.nextInt(100) < density ? 1 + random.nextInt(palette) : 0);
        }
        x.takeClues();
        for (int i = random.nextInt(6); i > 0; i--) {
            x.setClue(random.nextInt(lines), false);
        }
        if (random.nextInt(3) == 0) {
            int line = random.nextInt(lines);
            x.setClue(line, true);
            for (int i = 0; i < 3; i++) {
                x.addBlock(line, 1 + random.nextInt(2), 1 + random.nextInt(palette));
            }
        }
        for (int i = random.nextInt(4); i > 0; i--) {
            x.setMark(random.nextInt(width), random.nextInt(height), 1 + random.nextInt((2 << palette) - 1));
        }
    }

    private void compare(String name) {
        read();
        int number = Math.min(count(0, new int[w], 0), MOST);
        Due.is("solutions(99) of " + name, x.solutions(MOST), number);
        Due.is("solutions(2) of " + name, x.solutions(2), Math.min(number, 2));
        long[] first = number == 0 ? Puzzles.picture(x) : first();
        int filled = 0;
        for (long color : first) {
            filled += color != 0 ? 1 : 0;
        }
        Due.is("solve() of " + name, x.solve(), number == 0 ? PictureClues.NONE : filled);
        Due.are("the picture of " + name, Puzzles.picture(x), first);
        x.clearMarks();
        counts.clear();
        int ofFullMarks = count(0, new int[w], 0);
        int difficulty = x.difficulty();
        Due.is("solutions by difficulty() of " + name, difficulty == 0 ? 0 : difficulty == 5 ? 2 : 1,
                Math.min(ofFullMarks, 2));
    }

    private void read() {
        w = x.count(0);
        h = x.count(1);
        colors = x.count(2);
        clues = new int[w + h][][];
        counts.clear();
        for (int line = 0; line < w + h; line++) {
            int size = x.line(line, 0);
            clues[line] = size < 0 ? null : new int[size][];
            for (int block = 0; block < size; block++) {
                clues[line][block] = new int[] {x.block(line, block, 0), x.block(line, block, 1)};
            }
        }
    }

    /** The solutions from a cell on, at most 99, when the lines before it are in some states. */
    private int count(int cell, int[] columns, int row) {
        if (cell == w * h) {
            return 1;
        }
        long packed = 0;
        for (int state : columns) {
            packed = packed << 8 | state;
        }
        State key = new State(cell, packed, row);
        Integer known = counts.get(key);
        if (known != null) {
            return known;
        }
        int sum = 0;
        for (int color = 0; color <= colors && sum < MOST; color++) {
            int[] next = step(cell, columns, row, color);
            if (next != null) {
                sum += count(cell + 1, columnsOf(next), next[w]);
            }
        }
        counts.put(key, Math.min(sum, MOST));
        return Math.min(sum, MOST);
    }

    private int[] columnsOf(int[] states) {
        return Arrays.copyOf(states, w);
    }

    /** The states of the columns, and then of the row, behind a cell with a color; null if it can't have it. */
    private int[] step(int cell, int[] columns, int row, int color) {
        int column = cell % w;
        int y = cell / w;
        if ((x.mark(column, y) >> color & 1) == 0) {
            return null;
        }
        int[] next = Arrays.copyOf(columns, w + 1);
        next[column] = behind(clues[h + column], columns[column], color, h - 1 - y);
        next[w] = behind(clues[y], row, color, w - 1 - column);
        boolean possible = next[column] >= 0 && next[w] >= 0;
        next[w] = column == w - 1 ? 0 : next[w];
        return possible ? next : null;
    }

    /**
     * A state is 16 times the number of blocks that have begun, plus the cells of the last one if
     * it reaches up to here. Returns the state behind one cell more, or -1 if there is none, or if
     * the cells that are left then are too few.
     */
    private static int behind(int[][] clue, int state, int color, int left) {
        if (clue == null) {
            return 0;
        }
        int begun = state / 16;
        int run = state % 16;
        int next;
        if (color == 0) {
            boolean torn = run > 0 && run < clue[begun - 1][0];
            next = torn ? -1 : begun * 16;
        } else if (run > 0 && clue[begun - 1][1] == color) {
            next = run < clue[begun - 1][0] ? state + 1 : -1;
        } else if (run > 0 && run < clue[begun - 1][0]) {
            next = -1;
        } else {
            next = begun < clue.length && clue[begun][1] == color ? (begun + 1) * 16 + 1 : -1;
        }
        return next >= 0 && roomBehind(clue, next) <= left ? next : -1;
    }

    /** The cells that the rest of a clue needs behind a state. */
    private static int roomBehind(int[][] clue, int state) {
        int begun = state / 16;
        int run = state % 16;
        int room = run > 0 ? clue[begun - 1][0] - run : 0;
        for (int block = begun; block < clue.length; block++) {
            boolean near = block > begun || run > 0;
            room += clue[block][0] + (near && clue[block - 1][1] == clue[block][1] ? 1 : 0);
        }
        return room;
    }

    private long[] first() {
        long[] picture = new long[w * h];
        int[] states = new int[w + 1];
        for (int cell = 0; cell < w * h; cell++) {
            for (int color = 0; color <= colors; color++) {
                int[] next = step(cell, columnsOf(states), states[w], color);
                if (next != null && count(cell + 1, columnsOf(next), next[w]) > 0) {
                    picture[cell] = color;
                    states = next;
                    break;
                }
            }
        }
        return picture;
    }
}
