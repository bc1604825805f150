/** Promises 13 to 17: marks. */
public final class MarksTest {
    private static final int BAD = PictureClues.BAD, STATE = PictureClues.STATE, WRONG = PictureClues.WRONG;

    /** A cross: each line's blocks lie fast when the lines are narrowed in turn. */
    static final String CROSS = "3;1;5;1;1;1;1 1;5;1 1;1";
    /** A puzzle that trials solve, and fillings do not narrow at all. */
    static final String TRIALS = "2;1 1;1;1;1;1";
    /** Three rows want a cell each, but two columns have only two: no line is wrong at first. */
    static final String PIGEONS = "1;1;1;1;1";

    public static void main(String[] args) {
        setMark();
        mark();
        clearMarks();
        narrowByOverlap();
        overlapOfColors();
        narrowByFillings();
        fillingsOfColors();
        narrowByTrials();
        narrowWrong();
        trial();
        trialState();
        Due.end();
    }

    /** Promise 13. */
    private static void setMark() {
        PictureClues x = new PictureClues();
        x.start(3, 2, 2);
        long before = x.digest();
        for (int strange : Puzzles.STRANGE) {
            Due.is("setMark(" + strange + ", 0, 1)", x.setMark(strange, 0, 1), BAD);
            Due.is("setMark(0, " + strange + ", 1)", x.setMark(0, strange, 1), BAD);
            Due.is("setMark(0, 0, " + strange + ")", x.setMark(0, 0, strange), BAD);
        }
        Due.is("setMark(3, 0, 1)", x.setMark(3, 0, 1), BAD);
        Due.is("setMark(0, 2, 1)", x.setMark(0, 2, 1), BAD);
        Due.is("setMark(0, 0, 0)", x.setMark(0, 0, 0), BAD);
        Due.is("setMark(0, 0, 8)", x.setMark(0, 0, 8), BAD);
        Due.is("setMark(0, 0, 9)", x.setMark(0, 0, 9), BAD);
        Due.is("digest() after errors", x.digest(), before);
        int previous = 7;
        for (int which = 1; which <= 7; which++) {
            Due.is("setMark(2, 1, " + which + ")", x.setMark(2, 1, which), previous);
            previous = which;
        }
        Due.are("marks", Puzzles.marks(x), 7, 7, 7, 7, 7, 7);
        Due.is("setMark(1, 0, 4)", x.setMark(1, 0, 4), 7);
        Due.are("marks", Puzzles.marks(x), 7, 4, 7, 7, 7, 7);
        Due.is("states", x.count(8), 8);
    }

    /** Promise 14. */
    private static void mark() {
        PictureClues x = new PictureClues();
        x.start(2, 3, 3);
        x.setMark(1, 0, 9);
        x.setMark(0, 2, 6);
        Due.are("marks", Puzzles.marks(x), 15, 9, 15, 15, 6, 15);
        for (int strange : Puzzles.STRANGE) {
            Due.is("mark(" + strange + ", 0)", x.mark(strange, 0), BAD);
            Due.is("mark(0, " + strange + ")", x.mark(0, strange), BAD);
        }
        Due.is("mark(2, 0)", x.mark(2, 0), BAD);
        Due.is("mark(0, 3)", x.mark(0, 3), BAD);
    }

    /** Promise 15. */
    private static void clearMarks() {
        PictureClues x = new PictureClues();
        x.start(2, 2, 3);
        Due.is("clearMarks() of full marks", x.clearMarks(), 0);
        Due.is("it is a change", x.count(8), 1);
        x.setMark(0, 0, 1);
        x.setMark(0, 1, 14);
        x.setMark(1, 1, 15);
        Due.is("clearMarks()", x.clearMarks(), 2);
        Due.are("marks", Puzzles.marks(x), 15, 15, 15, 15);
        Due.is("states", x.count(8), 5);
        x.undo();
        Due.are("marks before", Puzzles.marks(x), 1, 15, 14, 15);
    }

    /** Promise 16. */
    private static void narrowByOverlap() {
        PictureClues x = Puzzles.loaded(5, 5, 1, CROSS);
        for (int strange : new int[] {0, 4, -1, Integer.MIN_VALUE, Integer.MAX_VALUE}) {
            Due.is("narrow(" + strange + ")", x.narrow(strange), BAD);
        }
        Due.is("states", x.count(8), 1);
        Due.is("narrow(1)", x.narrow(1), 25);
        Due.are("marks", Puzzles.marks(x), 1, 2, 2, 2, 1, 1, 1, 2, 1, 1, 2, 2, 2, 2, 2, 1, 1, 2, 1, 1, 1, 1, 2, 1, 1);
        Due.is("narrow(1) again", x.narrow(1), 0);
        Due.is("narrow(2) again", x.narrow(2), 0);
        Due.is("narrow(3) again", x.narrow(3), 0);
        Due.is("states", x.count(8), 5);
        x.start(5, 1, 1);
        Due.is("narrow(1) without clues", x.narrow(1), 0);
        x.addBlock(0, 3, 1);
        Due.is("narrow(1) of 3 in 5", x.narrow(1), 1);
        Due.are("marks of 3 in 5", Puzzles.marks(x), 3, 3, 2, 3, 3);
        x.setMark(0, 0, 1);
        Due.is("narrow(1) of 3 in 4", x.narrow(1), 1);
        Due.are("marks of 3 in 4", Puzzles.marks(x), 1, 3, 2, 2, 3);
        x.setMark(4, 0, 2);
        Due.is("narrow(1) with the last cell", x.narrow(1), 1);
        Due.are("marks with the last cell", Puzzles.marks(x), 1, 1, 2, 2, 2);
    }

    private static void overlapOfColors() {
        PictureClues x = new PictureClues();
        x.start(6, 1, 3);
        x.addBlock(0, 3, 1);
        x.addBlock(0, 2, 3);
        Due.is("narrow(1)", x.narrow(1), 3);
        Due.are("marks", Puzzles.marks(x), 15, 2, 2, 15, 8, 15);
        Due.is("narrow(2)", x.narrow(2), 3);
        Due.are("marks", Puzzles.marks(x), 3, 2, 2, 11, 8, 9);
    }

    private static void narrowByFillings() {
        PictureClues x = new PictureClues();
        x.start(7, 1, 1);
        x.addBlock(0, 2, 1);
        x.setMark(2, 0, 1);
        x.setMark(4, 0, 1);
        Due.is("a gap that overlap does not see", x.narrow(1), 0);
        Due.is("narrow(2)", x.narrow(2), 1);
        Due.are("marks", Puzzles.marks(x), 3, 3, 1, 1, 1, 3, 3);
        x.setMark(6, 0, 2);
        Due.is("narrow(2)", x.narrow(2), 3);
        Due.are("marks", Puzzles.marks(x), 1, 1, 1, 1, 1, 2, 2);
        x.start(1, 7, 1);
        x.addBlock(7, 2, 1);
        x.setMark(0, 2, 1);
        x.setMark(0, 4, 1);
        Due.is("the same in a column: narrow(1)", x.narrow(1), 0);
        Due.is("the same in a column: narrow(2)", x.narrow(2), 1);
        Due.is("the same in a column: mark(0, 3)", x.mark(0, 3), 1);
    }

    private static void fillingsOfColors() {
        PictureClues x = Puzzles.loaded(3, 3, 2, "any;1b1a;1b1a;2b;2a;1b");
        Due.is("narrow(1)", x.narrow(1), 3);
        Due.are("marks", Puzzles.marks(x), 7, 7, 7, 4, 2, 1, 7, 7, 7);
        Due.is("narrow(2)", x.narrow(2), 6);
        Due.are("marks", Puzzles.marks(x), 1, 1, 4, 4, 2, 1, 4, 2, 1);
    }

    private static void narrowByTrials() {
        PictureClues x = Puzzles.loaded(4, 2, 1, TRIALS);
        Due.is("narrow(1)", x.narrow(1), 0);
        Due.is("narrow(2)", x.narrow(2), 0);
        Due.is("narrow(3)", x.narrow(3), 8);
        Due.are("marks", Puzzles.marks(x), 1, 2, 2, 1, 2, 1, 1, 2);
        Due.is("states", x.count(8), 4);
        x.undo();
        Due.are("marks before", Puzzles.marks(x), 3, 3, 3, 3, 3, 3, 3, 3);
        x = Puzzles.loaded(6, 5, 1, SolutionsTest.HARD);
        Due.is("hard: narrow(2)", x.narrow(2), 6);
        Due.is("hard: narrow(3)", x.narrow(3), 2);
        Due.is("hard: known", x.count(4), 8);
        Due.is("hard: narrow(3) again", x.narrow(3), 0);
    }

    private static void narrowWrong() {
        PictureClues x = Puzzles.loaded(2, 2, 1, "2;none;none;none");
        long before = x.digest();
        Due.is("no line is wrong", x.count(5), 0);
        for (int level = 1; level <= 3; level++) {
            Due.is("becomes wrong: narrow(" + level + ")", x.narrow(level), WRONG);
            Due.is("digest() after WRONG", x.digest(), before);
        }
        x.start(3, 3, 1);
        x.addBlock(2, 2, 1);
        x.setMark(1, 2, 1);
        Due.is("a line is wrong", x.count(5), 1);
        for (int level = 1; level <= 3; level++) {
            Due.is("is wrong: narrow(" + level + ")", x.narrow(level), WRONG);
        }
        Due.is("BAD comes first", x.narrow(0), BAD);
        x = Puzzles.loaded(2, 3, 1, PIGEONS);
        Due.is("pigeons: narrow(2)", x.narrow(2), 0);
        before = x.digest();
        Due.is("pigeons: narrow(3)", x.narrow(3), WRONG);
        Due.is("digest() after WRONG", x.digest(), before);
    }

    /** Promise 17. */
    private static void trial() {
        PictureClues x = Puzzles.loaded(4, 2, 1, TRIALS);
        long before = x.digest();
        for (int strange : Puzzles.STRANGE) {
            Due.is("trial(" + strange + ", 0, 0)", x.trial(strange, 0, 0), BAD);
            Due.is("trial(0, " + strange + ", 0)", x.trial(0, strange, 0), BAD);
            Due.is("trial(0, 0, " + strange + ")", x.trial(0, 0, strange), BAD);
        }
        Due.is("trial(4, 0, 0)", x.trial(4, 0, 0), BAD);
        Due.is("trial(0, 2, 0)", x.trial(0, 2, 0), BAD);
        Due.is("trial(0, 0, 2)", x.trial(0, 0, 2), BAD);
        long[] due = {0, 1, 1, 0, 1, 0, 0, 1};
        for (int i = 0; i < 8; i++) {
            Due.is("trial(0) of cell " + i, x.trial(i % 4, i / 4, 0), due[i]);
            Due.is("trial(1) of cell " + i, x.trial(i % 4, i / 4, 1), 1 - due[i]);
        }
        Due.is("digest() after trials", x.digest(), before);
        x = Puzzles.loaded(2, 3, 1, PIGEONS);
        for (int i = 0; i < 6; i++) {
            Due.is("pigeons: trial(0) of cell " + i, x.trial(i % 2, i / 2, 0), 1);
            Due.is("pigeons: trial(1) of cell " + i, x.trial(i % 2, i / 2, 1), 1);
        }
    }

    private static void trialState() {
        PictureClues x = new PictureClues();
        x.start(2, 2, 2);
        Due.is("without clues: trial(1, 1, 2)", x.trial(1, 1, 2), 0);
        x.setMark(0, 0, 2);
        x.setMark(1, 0, 5);
        Due.is("known: trial(0, 0, 1)", x.trial(0, 0, 1), STATE);
        Due.is("known: trial(0, 0, 0)", x.trial(0, 0, 0), STATE);
        Due.is("known, but no color: trial(0, 0, 3)", x.trial(0, 0, 3), BAD);
        Due.is("not in the mark: trial(1, 0, 1)", x.trial(1, 0, 1), STATE);
        Due.is("in the mark: trial(1, 0, 2)", x.trial(1, 0, 2), 0);
        x.setClue(0, true);
        Due.is("a line that is wrong already: trial(1, 0, 0)", x.trial(1, 0, 0), 1);
        Due.is("far from the wrong line: trial(1, 1, 0)", x.trial(1, 1, 0), 1);
        Due.is("STATE comes before a refutation", x.trial(0, 0, 1), STATE);
    }
}
