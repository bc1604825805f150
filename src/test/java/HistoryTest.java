/** Promises 25 to 27: history and numbers. */
public final class HistoryTest {
    private static final int NONE = PictureClues.NONE, BAD = PictureClues.BAD, STATE = PictureClues.STATE;

    public static void main(String[] args) {
        undo();
        undoOfAllChanges();
        noChanges();
        count();
        countLines();
        digest();
        digestOfAll();
        Due.end();
    }

    /** Promise 25. */
    private static void undo() {
        PictureClues x = new PictureClues();
        Due.is("undo()", x.undo(), STATE);
        for (int i = 1; i <= 12; i++) {
            x.setMark(i % 5, i / 5, 1);
            Due.is("states", x.count(8), Math.min(i, 8));
        }
        for (int left = 7; left >= 0; left--) {
            Due.is("undo()", x.undo(), left);
            int last = 5 + left;
            Due.is("the mark that was set last but one", x.mark((last - 1) % 5, (last - 1) / 5), 1);
            Due.is("the mark that was set last", x.mark(last % 5, last / 5), 3);
        }
        Due.is("no ninth undo()", x.undo(), STATE);
        Due.is("what was dropped stays", x.mark(4, 0), 1);
        for (int i = 1; i <= 5; i++) {
            x.paint(0, 0, 1, 1, i % 2);
        }
        Due.is("states again", x.count(8), 5);
        Due.is("undo() again", x.undo(), 4);
        Due.is("picture(0, 0)", x.picture(0, 0), 0);
    }

    private static void undoOfAllChanges() {
        PictureClues x = new PictureClues();
        x.start(4, 2, 1);
        Puzzles.type(x, MarksTest.TRIALS);
        long[] marks = Puzzles.marks(x);
        x.addBlock(0, 1, 1);
        x.setClue(1, true);
        x.paint(1, 0, 2, 1, 1);
        x.takeClues();
        x.load();
        x.narrow(3);
        x.clearMarks();
        x.solve();
        Due.is("8 changes", x.count(8), 8);
        Due.are("solved", Puzzles.picture(x), 0, 1, 1, 0, 1, 0, 0, 1);
        x.undo();
        Due.are("solve() undone", Puzzles.picture(x), 0, 1, 1, 0, 0, 0, 0, 0);
        x.undo();
        Due.are("clearMarks() undone", Puzzles.marks(x), 1, 2, 2, 1, 2, 1, 1, 2);
        x.undo();
        Due.are("narrow() undone", Puzzles.marks(x), marks);
        Puzzles.same("loaded", Puzzles.clues(x), "2a;1a1a;1a;1a;1a;1a");
        x.undo();
        Puzzles.same("load() undone", Puzzles.clues(x), "2a;none;none;1a;1a;none");
        x.undo();
        Puzzles.same("takeClues() undone", Puzzles.clues(x), "1a;none;any;any;any;any");
        x.undo();
        Due.are("paint() undone", Puzzles.picture(x), 0, 0, 0, 0, 0, 0, 0, 0);
        x.undo();
        Puzzles.same("setClue() undone", Puzzles.clues(x), "1a;any;any;any;any;any");
        Due.is("the last undo()", x.undo(), 0);
        Puzzles.same("addBlock() undone", Puzzles.clues(x), "any;any;any;any;any;any");
    }

    private static void noChanges() {
        PictureClues x = new PictureClues();
        x.addBlock(0, 3, 1);
        int[] answers = {x.line(0, 2), x.block(0, 0, 2), x.picture(0, 0), x.type(65), x.load(), x.clear(), x.mark(0, 0),
            x.trial(0, 0, 1), x.solutions(3), x.difficulty(), x.mistakes(), x.hint(), x.hinted(0), x.count(4),
            x.addBlock(0, 3, 1), x.narrow(0), x.setMark(0, 0, 0), x.paint(0, 0, 0, 0, 0), x.setClue(-1, true)};
        Due.is("calls", answers.length, 19);
        Due.is("load() with a fault", answers[4], -2000);
        Due.is("states", x.count(8), 1);
    }

    /** Promise 26. */
    private static void count() {
        PictureClues x = new PictureClues();
        x.start(4, 3, 2);
        for (int strange : Puzzles.STRANGE) {
            Due.is("count(" + strange + ")", x.count(strange), BAD);
        }
        Due.is("count(11)", x.count(11), BAD);
        x.addBlock(1, 1, 1);
        x.addBlock(1, 2, 2);
        x.setClue(6, true);
        x.setMark(3, 2, 4);
        x.paint(1, 1, 2, 1, 2);
        x.setMark(0, 0, 3);
        Puzzles.type(x, "any");
        long[] all = new long[11];
        for (int what = 0; what < 11; what++) {
            all[what] = x.count(what);
        }
        Due.are("count(..)", all, 4, 3, 2, 2, 1, 1, 2, 2, 6, 3, 1);
    }

    private static void countLines() {
        PictureClues x = new PictureClues();
        x.start(3, 2, 2);
        Puzzles.paint(x, "112", "100");
        x.takeClues();
        Due.is("all fit", x.count(10), 5);
        Due.is("all have a clue", x.count(3), 5);
        Due.is("blocks of all clues", x.count(6), 6);
        x.setClue(1, false);
        Due.is("one has no clue", x.count(10), 4);
        x.addBlock(1, 2, 1);
        Due.is("one does not fit", x.count(10), 4);
        x.setMark(0, 0, 1);
        Due.is("marks do not matter", x.count(10), 4);
        Due.is("two are wrong", x.count(5), 2);
        x.paint(1, 1, 1, 1, 1);
        Due.is("the row fits, its column does not", x.count(10), 4);
        x.paint(0, 1, 1, 1, 2);
        Due.is("another color", x.count(10), 2);
        x.setClue(0, true);
        Due.is("a row that is not empty", x.count(10), 1);
        x.paint(0, 0, 3, 1, 0);
        Due.is("a row that is empty", x.count(10), 2);
    }

    /** The hash of numbers as the document has it. */
    private static long hash(long before, long... numbers) {
        long hash = before;
        for (long number : numbers) {
            hash = 31 * hash + number;
        }
        return hash;
    }

    /** Promise 27. */
    private static void digest() {
        PictureClues x = new PictureClues();
        x.start(1, 2, 2);
        long due = hash(633, 1, 2, 2, 0, 0, 0, 0, 0, 0, 0, 0);
        due = hash(due, NONE, 0, 3, 0, 0, NONE, 0, 3, 0, 0, NONE, 0, 9, 0, 0);
        due = hash(due, 7, 0, 7, 0);
        Due.is("digest()", x.digest(), due);
        x.addBlock(2, 1, 2);
        x.setMark(0, 0, 6);
        x.paint(0, 1, 1, 1, 1);
        Puzzles.type(x, " ;");
        due = hash(633, 1, 2, 2, 1, 0, 0, 1, 1, 3, 2, 0);
        due = hash(due, NONE, 0, 2, 0, 0, NONE, 0, 3, 0, 0, 1, 1, 1, 0, 0, 1, 2, 0, 0);
        due = hash(due, 6, 0, 7, 1);
        Due.is("digest() without a hint", x.digest(), hash(due, 32, 59));
        Due.is("hint()", x.hint(), 1);
        Due.is("digest() with a hint", x.digest(), hash(hash(due, 1, 0, 0, 4, 2), 32, 59));
        x.setMark(0, 0, 4);
        due = hash(633, 1, 2, 2, 1, 1, 0, 1, 1, 4, 2, 0);
        due = hash(due, NONE, 0, 1, 1, 0, NONE, 0, 3, 0, 0, 1, 1, 1, 1, 0, 1, 2, 0, 0);
        due = hash(due, 4, 0, 7, 1, 1, 0, 0, 4, 2, 32, 59);
        Due.is("digest() with a known cell", x.digest(), due);
        x.setMark(0, 1, 4);
        due = hash(633, 1, 2, 2, 1, 2, 1, 1, 1, 5, 2, 0);
        due = hash(due, NONE, 0, 1, 1, 0, NONE, 0, 1, 1, 0, 1, 1, 0, 2, 1, 1, 2, NONE, NONE);
        due = hash(due, 4, 0, 4, 1, 1, 0, 0, 4, 2, 32, 59);
        Due.is("digest() with a wrong line", x.digest(), due);
    }

    /** The digest of a great puzzle from the answers of the other calls. */
    private static void digestOfAll() {
        PictureClues x = new PictureClues();
        x.start(8, 8, 3);
        for (int i = 0; i < 64; i++) {
            x.paint(i % 8, i / 8, 1, 1, i * i % 7 % 4);
        }
        x.takeClues();
        Due.is("hint() is found", x.hint() > 0 ? 1 : 0, 1);
        long due = 633;
        for (int what = 0; what <= 10; what++) {
            due = hash(due, x.count(what));
        }
        for (int line = 0; line < 16; line++) {
            due = hash(due, x.line(line, 0), x.line(line, 1), x.line(line, 2), x.line(line, 3), x.line(line, 4));
            for (int block = 0; block < x.line(line, 0); block++) {
                due = hash(due, x.block(line, block, 0), x.block(line, block, 1));
                due = hash(due, x.block(line, block, 2), x.block(line, block, 3));
            }
        }
        for (int i = 0; i < 64; i++) {
            due = hash(due, x.mark(i % 8, i / 8), x.picture(i % 8, i / 8));
        }
        Due.is("digest() of 64 cells", x.digest(), hash(due, Puzzles.hinted(x)));
    }
}
