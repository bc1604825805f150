/** Puzzles that several tests use, and what they read from them. */
final class Puzzles {
    /** The numbers that are in no range of the document, but near one or at an end of int. */
    static final int[] STRANGE = {-1, Integer.MIN_VALUE, Integer.MAX_VALUE, 1 << 30, -(1 << 30)};

    private Puzzles() {
    }

    static void type(PictureClues x, String text) {
        for (int i = 0; i < text.length(); i++) {
            x.type(text.charAt(i));
        }
    }

    static PictureClues loaded(int width, int height, int colors, String text) {
        PictureClues x = new PictureClues();
        x.start(width, height, colors);
        type(x, text);
        Due.is("type() of " + text, x.count(9), text.length());
        x.load();
        Due.is("bytes left of " + text, x.count(9), 0);
        return x;
    }

    /** Starts a puzzle of 8 by 8 cells: its colors, its clues and, behind slashes, marks as x, y and the set. */
    static void start(PictureClues x, String puzzle) {
        String[] parts = puzzle.split("/");
        x.start(8, 8, Integer.parseInt(parts[0]));
        x.clear();
        // All of the clues are in the text's limit only if they are typed without blanks.
        type(x, parts[1].replace(" ", ""));
        Due.is("load() of " + puzzle, x.load() > 0 ? 1 : 0, 1);
        for (String mark : parts.length > 2 ? parts[2].split(",") : new String[0]) {
            String[] numbers = mark.split(" ");
            x.setMark(Integer.parseInt(numbers[0]), Integer.parseInt(numbers[1]), Integer.parseInt(numbers[2]));
        }
    }

    /** A clue behind the other, as a text would have it, with a letter for each color. */
    static String clues(PictureClues x) {
        StringBuilder text = new StringBuilder();
        for (int line = 0; line < x.count(0) + x.count(1); line++) {
            text.append(line > 0 ? ";" : "");
            int blocks = x.line(line, 0);
            text.append(blocks == PictureClues.NONE ? "any" : blocks == 0 ? "none" : "");
            for (int block = 0; block < blocks; block++) {
                text.append(x.block(line, block, 0)).append((char) ('a' - 1 + x.block(line, block, 1)));
            }
        }
        return text.toString();
    }

    static long[] marks(PictureClues x) {
        return cells(x, true);
    }

    static long[] picture(PictureClues x) {
        return cells(x, false);
    }

    private static long[] cells(PictureClues x, boolean marks) {
        int width = x.count(0);
        long[] cells = new long[width * x.count(1)];
        for (int i = 0; i < cells.length; i++) {
            cells[i] = marks ? x.mark(i % width, i / width) : x.picture(i % width, i / width);
        }
        return cells;
    }

    static long[] hinted(PictureClues x) {
        long[] all = new long[5];
        for (int what = 0; what < 5; what++) {
            all[what] = x.hinted(what);
        }
        return all;
    }

    /** Paints rows of digits. */
    static void paint(PictureClues x, String... rows) {
        for (int y = 0; y < rows.length; y++) {
            for (int i = 0; i < rows[y].length(); i++) {
                x.paint(i, y, 1, 1, rows[y].charAt(i) - '0');
            }
        }
    }

    static void same(String what, String got, String want) {
        Due.is(what + " (" + got + " for " + want + ")", got.equals(want) ? 1 : 0, 1);
    }
}
