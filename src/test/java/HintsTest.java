/** Promises 22 to 24: hints. */
public final class HintsTest {
    private static final int NONE = PictureClues.NONE, BAD = PictureClues.BAD, STATE = PictureClues.STATE,
            WRONG = PictureClues.WRONG;

    public static void main(String[] args) {
        hintByOverlap();
        orderOfLines();
        hintByFillings();
        hintByTrials();
        hintErrors();
        hintIsKept();
        hinted();
        takeHint();
        Due.end();
    }

    /** Promise 22. */
    private static void hintByOverlap() {
        PictureClues x = Puzzles.loaded(5, 5, 1, MarksTest.CROSS);
        long[] marks = Puzzles.marks(x);
        Due.is("hint()", x.hint(), 1);
        // Line 2 is the first of the lines that have one filling.
        Due.are("hinted(..)", Puzzles.hinted(x), 1, 0, 2, 2, 2);
        Due.are("marks stay", Puzzles.marks(x), marks);
        Due.is("hint() is no change", x.count(8), 1);
        int steps = 0;
        while (x.hint() == 1 && steps < 30) {
            x.takeHint();
            steps++;
        }
        Due.is("the steps of the cross", steps, 25);
        Due.is("hint() when all is known", x.hint(), NONE);
    }

    private static void orderOfLines() {
        PictureClues x = new PictureClues();
        x.start(4, 4, 2);
        x.addBlock(1, 3, 1);
        x.addBlock(6, 3, 2);
        Due.is("equal numbers: hint()", x.hint(), 1);
        Due.are("the least line of equal numbers", Puzzles.hinted(x), 1, 1, 1, 2, 1);
        x.setMark(2, 3, 1);
        Due.is("one filling: hint()", x.hint(), 1);
        Due.are("the line with one filling", Puzzles.hinted(x), 1, 2, 0, 4, 6);
        x.setClue(0, true);
        Due.is("two lines with one filling: hint()", x.hint(), 1);
        Due.are("a mark with only color 0", Puzzles.hinted(x), 1, 0, 0, 1, 0);
        x.setClue(0, false);
        x.start(5, 5, 1);
        x.addBlock(0, 1, 1);
        x.addBlock(9, 3, 1);
        x.addBlock(8, 2, 1);
        x.setMark(3, 3, 2);
        Due.is("2 in 5 with a cell: hint()", x.hint(), 1);
        Due.are("2 in 5 with a cell", Puzzles.hinted(x), 1, 3, 0, 1, 8);
    }

    private static void hintByFillings() {
        PictureClues x = new PictureClues();
        x.start(7, 2, 1);
        x.addBlock(0, 2, 1);
        x.setMark(2, 0, 1);
        x.setMark(4, 0, 1);
        Due.is("hint()", x.hint(), 2);
        Due.are("hinted(..)", Puzzles.hinted(x), 2, 3, 0, 1, 0);
        x.addBlock(1, 4, 1);
        Due.is("overlap comes first: hint()", x.hint(), 1);
        Due.are("overlap comes first", Puzzles.hinted(x), 1, 3, 1, 2, 1);
        x = Puzzles.loaded(3, 3, 2, "any;any;1b1a;any;any;any");
        Due.is("colors: hint()", x.hint(), 2);
        Due.are("colors", Puzzles.hinted(x), 2, 0, 2, 5, 2);
    }

    private static void hintByTrials() {
        PictureClues x = Puzzles.loaded(4, 2, 1, MarksTest.TRIALS);
        Due.is("hint()", x.hint(), 3);
        Due.are("hinted(..)", Puzzles.hinted(x), 3, 0, 0, 1, NONE);
        Due.is("takeHint()", x.takeHint(), 1);
        Due.is("hint() then", x.hint(), 1);
        x = Puzzles.loaded(2, 3, 1, MarksTest.PIGEONS);
        Due.is("pigeons: hint()", x.hint(), 3);
        Due.are("pigeons: color 0 is tried first", Puzzles.hinted(x), 3, 0, 0, 2, NONE);
        x = Puzzles.loaded(3, 3, 1, "1;1;1;1;1;1");
        Due.is("no hint: hint()", x.hint(), NONE);
        Due.is("no hint: hinted(0)", x.hinted(0), STATE);
    }

    private static void hintErrors() {
        PictureClues x = new PictureClues();
        Due.is("without clues: hint()", x.hint(), NONE);
        x.addBlock(0, 4, 1);
        x.setMark(2, 0, 1);
        long before = x.digest();
        Due.is("a wrong line: hint()", x.hint(), WRONG);
        x.addBlock(4, 4, 1);
        Due.is("another line with a hint: hint()", x.hint(), WRONG);
        x.undo();
        Due.is("digest() after WRONG", x.digest(), before);
        x = Puzzles.loaded(2, 2, 1, "2;none;none;none");
        Due.is("no line is wrong yet: hint()", x.hint(), 1);
        Due.are("no line is wrong yet", Puzzles.hinted(x), 1, 0, 0, 2, 0);
    }

    private static void hintIsKept() {
        PictureClues x = new PictureClues();
        x.addBlock(1, 4, 1);
        x.hint();
        long[] kept = {1, 1, 1, 2, 1};
        Due.are("the hint", Puzzles.hinted(x), kept);
        x.setClue(1, false);
        Due.is("without clues: hint()", x.hint(), NONE);
        Due.are("after NONE", Puzzles.hinted(x), kept);
        x.addBlock(1, 4, 1);
        x.setMark(2, 1, 1);
        Due.is("a wrong line: hint()", x.hint(), WRONG);
        Due.are("after WRONG", Puzzles.hinted(x), kept);
        x.undo();
        x.narrow(2);
        x.clearMarks();
        Puzzles.type(x, "none;none;none;none;none;none;none;none;none;none");
        x.load();
        Due.are("after changes", Puzzles.hinted(x), kept);
        Due.is("start(9, 9, 9)", x.start(9, 9, 9), BAD);
        Due.are("after a bad start", Puzzles.hinted(x), kept);
        Due.is("hint()", x.hint(), 1);
        Due.are("the next hint", Puzzles.hinted(x), 1, 0, 0, 1, 0);
        x.start(5, 5, 1);
        Due.is("after start: hinted(0)", x.hinted(0), STATE);
    }

    /** Promise 23. */
    private static void hinted() {
        PictureClues x = new PictureClues();
        for (int what = 0; what < 5; what++) {
            Due.is("no hint: hinted(" + what + ")", x.hinted(what), STATE);
        }
        Due.is("no hint: hinted(5)", x.hinted(5), BAD);
        Due.is("no hint: hinted(-1)", x.hinted(-1), BAD);
        x.start(3, 8, 3);
        x.addBlock(10, 5, 3);
        Due.is("hint()", x.hint(), 1);
        Due.are("hinted(..)", Puzzles.hinted(x), 1, 2, 3, 8, 10);
        for (int strange : Puzzles.STRANGE) {
            Due.is("hinted(" + strange + ")", x.hinted(strange), BAD);
        }
        Due.is("hinted(5)", x.hinted(5), BAD);
    }

    /** Promise 24. */
    private static void takeHint() {
        PictureClues x = new PictureClues();
        Due.is("no hint: takeHint()", x.takeHint(), STATE);
        x.start(3, 1, 3);
        x.addBlock(0, 1, 2);
        x.addBlock(0, 1, 1);
        Due.is("hint()", x.hint(), 2);
        Due.are("hinted(..)", Puzzles.hinted(x), 2, 0, 0, 5, 0);
        x.setMark(0, 0, 12);
        Due.is("takeHint() of common colors", x.takeHint(), 4);
        Due.is("mark(0, 0)", x.mark(0, 0), 4);
        Due.is("states", x.count(8), 4);
        Due.is("takeHint() again", x.takeHint(), 4);
        Due.is("it is a change", x.count(8), 5);
        x.setMark(0, 0, 10);
        long before = x.digest();
        Due.is("takeHint() without common colors", x.takeHint(), STATE);
        Due.is("digest() after STATE", x.digest(), before);
        x.setMark(0, 0, 15);
        Due.is("takeHint() of all colors", x.takeHint(), 5);
        x.undo();
        Due.is("undo() of it", x.mark(0, 0), 15);
        Due.are("the hint stays", Puzzles.hinted(x), 2, 0, 0, 5, 0);
    }
}
