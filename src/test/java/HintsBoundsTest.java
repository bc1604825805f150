/** The boundary cases of promises 22 to 24: hints. Each case tells its promise first. */
public final class HintsBoundsTest {
    private static final int NONE = PictureClues.NONE, BAD = PictureClues.BAD, STATE = PictureClues.STATE,
            WRONG = PictureClues.WRONG;

    public static void main(String[] args) throws IllegalAccessException {
        Cases.run(HintsBoundsTest.class);
    }

    private static PictureClues started(int width, int height, int colors) {
        PictureClues x = new PictureClues();
        x.start(width, height, colors);
        return x;
    }

    /** The busy puzzle without its hint: its last changes again, behind start(). */
    private static PictureClues withoutHint() {
        PictureClues x = Stays.busy();
        x.start(5, 3, 2);
        x.addBlock(0, 3, 2);
        x.setMark(1, 1, 4);
        return x;
    }

    private static void hint(String what, PictureClues x, long... due) {
        Due.is(what + ": hint()", x.hint(), due[0]);
        Due.are(what + ": hinted(..)", Puzzles.hinted(x), due);
    }

    // ---- promise 22

    /** Promise 22, a wrong line: WRONG, and all stays, the kept hint, too. */
    static void hintWithWrongLine() {
        Stays.all("hint()", Stays::wrong, PictureClues::hint, WRONG);
        PictureClues x = withoutHint();
        x.setClue(1, true);
        Due.is("hint()", x.hint(), WRONG);
        Due.is("hinted(0)", x.hinted(0), STATE);
    }

    /** Promise 22, several apply: WRONG comes before NONE, when there is nothing to be hinted but a wrong line. */
    static void hintWrongBeforeNone() {
        PictureClues x = started(2, 2, 1);
        x.setMark(0, 0, 2);
        x.setClue(0, true);
        x.setMark(1, 0, 1);
        Due.is("hint()", x.hint(), WRONG);
        Stays.all("hint() of known cells", () -> {
            PictureClues y = Stays.known();
            y.setMark(0, 0, 1);
            return y;
        }, PictureClues::hint, WRONG);
    }

    /** Promise 22, no hint: NONE when all cells are known, and all stays, the kept hint, too. */
    static void hintWhenAllIsKnown() {
        Stays.all("hint()", Stays::known, PictureClues::hint, NONE);
    }

    /** Promise 22, no hint: NONE without clues, with and without a kept hint. */
    static void hintWithoutClues() {
        PictureClues x = new PictureClues();
        Due.is("hint()", x.hint(), NONE);
        Due.is("hinted(0)", x.hinted(0), STATE);
        PictureClues y = Stays.busy();
        for (int line = 0; line < 8; line++) {
            y.setClue(line, false);
        }
        Due.is("hint() with a kept one", y.hint(), NONE);
        Due.are("the kept one", Puzzles.hinted(y), 1, 0, 0, 2, 0);
    }

    /** Promise 22, no hint: NONE when trials refute no color, although cells are unknown. */
    static void hintWhenTrialsRefuteNothing() {
        PictureClues x = Puzzles.loaded(3, 3, 1, "1;1;1;1;1;1");
        Due.is("permutations: hint()", x.hint(), NONE);
        x = Puzzles.loaded(6, 5, 1, SolutionsTest.HARD);
        x.narrow(3);
        Due.is("hard: hint()", x.hint(), NONE);
        Due.is("hard: hinted(0)", x.hinted(0), STATE);
    }

    /** Promise 22, a hint is found: only the kept hint becomes another one; it is no change. */
    static void hintIsNoChange() {
        PictureClues x = Stays.busy();
        x.setMark(0, 0, 2);
        Stays.but("h", "hint()", () -> {
            PictureClues y = Stays.busy();
            y.setMark(0, 0, 2);
            return y;
        }, PictureClues::hint, 1);
        hint("cell 0 is known", x, 1, 1, 0, 2, 0);
        Stays.all("the same hint()", PictureClues::hint, 1);
    }

    /** Promise 22, the least puzzle: a hint for its one cell, by the row before the column. */
    static void hintOfOneCell() {
        PictureClues x = started(1, 1, 3);
        x.addBlock(1, 1, 3);
        hint("by the column", x, 1, 0, 0, 8, 1);
        x.addBlock(0, 1, 3);
        hint("by the row", x, 1, 0, 0, 8, 0);
        x.setMark(0, 0, 8);
        Due.is("known: hint()", x.hint(), NONE);
    }

    /** Promise 22, the last cell of the greatest puzzle: x and y are 7, and the line is 15. */
    static void hintOfLastCell() {
        PictureClues x = started(8, 8, 3);
        x.addBlock(15, 8, 3);
        for (int y = 0; y < 7; y++) {
            x.setMark(7, y, 8);
        }
        hint("line 15", x, 1, 7, 7, 8, 15);
        x.addBlock(7, 1, 3);
        x.setMark(7, 7, 9);
        hint("line 15 has one filling", x, 1, 7, 7, 8, 15);
        Due.is("takeHint()", x.takeHint(), 8);
        Due.is("mark(7, 7)", x.mark(7, 7), 8);
        Due.is("mark(0, 0)", x.mark(0, 0), 15);
    }

    /** Promise 22, equal numbers of fillings: the least line comes first, of rows and of columns. */
    static void hintOfEqualNumbers() {
        PictureClues x = started(4, 4, 1);
        x.addBlock(7, 3, 1);
        hint("the last column", x, 1, 3, 1, 2, 7);
        x.addBlock(4, 3, 1);
        hint("the first column", x, 1, 0, 1, 2, 4);
        x.addBlock(3, 3, 1);
        hint("the last row", x, 1, 1, 3, 2, 3);
        x.addBlock(0, 3, 1);
        hint("the first row", x, 1, 1, 0, 2, 0);
    }

    /** Promise 22, one filling fewer: a line with a greater number comes first. */
    static void hintOfFewerFillings() {
        PictureClues x = started(5, 4, 1);
        x.addBlock(0, 3, 1);
        hint("3 fillings", x, 1, 2, 0, 2, 0);
        x.addBlock(3, 4, 1);
        hint("2 fillings", x, 1, 1, 3, 2, 3);
        x.addBlock(8, 4, 1);
        hint("1 filling", x, 1, 4, 0, 2, 8);
    }

    /** Promise 22, a line with the fewest fillings whose marks would not change: the next one gives the hint. */
    static void hintOfNextLine() {
        PictureClues x = started(4, 2, 1);
        x.setClue(0, true);
        for (int i = 0; i < 4; i++) {
            x.setMark(i, 0, 1);
        }
        Due.is("nothing: hint()", x.hint(), NONE);
        x.addBlock(1, 3, 1);
        hint("line 1", x, 1, 1, 1, 2, 1);
    }

    /** Promise 22, the most lines: of 16 with a clue, the one with the most fillings gives the hint, line 15 and line 0. */
    static void hintOfLastOfSixteenLines() {
        hint("line 15", sixteenLines(15, 7, 7), 1, 7, 7, 1, 15);
        hint("line 0", sixteenLines(0, 8, 0), 1, 0, 0, 1, 0);
        hint("line 8", sixteenLines(8, 0, 0), 1, 0, 0, 1, 8);
    }

    /** Each line has 8 fillings but for one with 15, which alone has a cell beyond its blocks: where it crosses another one. */
    private static PictureClues sixteenLines(int great, int crossing, int at) {
        PictureClues x = started(8, 8, 2);
        for (int line = 0; line < 16; line++) {
            x.addBlock(line, 1, line == crossing ? 1 : 2);
        }
        x.addBlock(great, 1, 2);
        x.setMark(at, at, 3);
        for (int line = 0; line < 16; line++) {
            Due.is("fillings of line " + line, x.line(line, 2), line == great ? 15 : 8);
        }
        return x;
    }

    /** Promise 22, the first cell whose mark would change: of row and column the least one, empty or not. */
    static void hintOfFirstCell() {
        PictureClues x = started(5, 1, 1);
        x.addBlock(0, 2, 1);
        x.setMark(1, 0, 2);
        hint("an empty cell behind the block", x, 1, 3, 0, 1, 0);
        x.setMark(0, 0, 1);
        hint("a cell of the block", x, 1, 2, 0, 2, 0);
        x.start(1, 5, 1);
        x.addBlock(5, 2, 1);
        x.setMark(0, 1, 2);
        hint("the same in a column", x, 1, 0, 3, 1, 5);
    }

    /** Promise 22, level 2 only when no line gives level 1, whatever numbers of fillings they have. */
    static void hintLevelOneBeforeTwo() {
        PictureClues x = started(7, 2, 1);
        x.addBlock(0, 2, 1);
        x.setMark(2, 0, 1);
        x.setMark(4, 0, 1);
        hint("fillings alone", x, 2, 3, 0, 1, 0);
        x.addBlock(1, 4, 1);
        hint("overlap with more fillings", x, 1, 3, 1, 2, 1);
    }

    /** Promise 22, level 3 only when no line gives level 2: the first cell in row-major order, its least color. */
    static void hintLevelThree() {
        PictureClues x = Puzzles.loaded(4, 2, 1, MarksTest.TRIALS);
        hint("trials", x, 3, 0, 0, 1, NONE);
        x = Puzzles.loaded(2, 3, 1, MarksTest.PIGEONS);
        hint("all colors are refuted", x, 3, 0, 0, 2, NONE);
        x = Puzzles.loaded(5, 3, 3, "none;2c;1c1c;none;1c;1c;1c;1c");
        x.narrow(2);
        hint("the first cells are known, and their greatest color is refuted", x, 3, 1, 1, 1, NONE);
        Due.is("takeHint()", x.takeHint(), 1);
        Due.is("mark(1, 1)", x.mark(1, 1), 1);
        x.start(3, 2, 3);
        x.addBlock(0, 1, 3);
        x.setMark(0, 0, 9);
        x.setMark(1, 0, 9);
        x.setMark(2, 0, 9);
        Due.is("nothing to refute: hint()", x.hint(), NONE);
        Due.are("the one before is gone by start()", Puzzles.hinted(x), STATE, STATE, STATE, STATE, STATE);
    }

    /** Promise 22, the last cell and the greatest color: no other color is refuted, so the hint is for this one. */
    static void hintLevelThreeOfLastCell() {
        PictureClues x = Puzzles.loaded(8, 8, 3, MarksBoundsTest.LAST);
        x.narrow(2);
        hint("the last cell", x, 3, 7, 7, 1, NONE);
        Due.is("takeHint()", x.takeHint(), 1);
        Due.is("hint() then", x.hint(), NONE);
    }

    /** Promise 22, the hint is kept through each other call, changes and refused ones: the document names two that end it. */
    static void hintIsKeptThroughAll() {
        PictureClues x = Stays.busy();
        long[] kept = {1, 0, 0, 2, 0};
        x.takeHint();
        x.addBlock(4, 1, 1);
        x.setClue(4, false);
        x.paint(0, 0, 5, 3, 1);
        x.takeClues();
        x.setMark(0, 0, 1);
        x.clearMarks();
        x.narrow(1);
        x.solve();
        x.undo();
        Due.are("after changes", Puzzles.hinted(x), kept);
        x.clear();
        Puzzles.type(x, "none;none;none;none;none;none;none;none");
        Due.is("load()", x.load(), 0);
        while (x.undo() > 0) {
            Due.are("after undo()", Puzzles.hinted(x), kept);
        }
        Due.is("undo() of nothing", x.undo(), STATE);
        Due.is("start(0, 1, 1)", x.start(0, 1, 1), BAD);
        Due.are("after refused calls", Puzzles.hinted(x), kept);
        Due.is("start(1, 1, 1)", x.start(1, 1, 1), 2);
        Due.is("after start", x.hinted(0), STATE);
    }

    // ---- promise 23

    /** Promise 23, property too small or too large: BAD with a hint, and all stays. */
    static void hintedOutside() {
        Stays.below(0, "hinted(n)", (x, n) -> x.hinted(n));
        Stays.above(4, "hinted(n)", (x, n) -> x.hinted(n));
    }

    /** Promise 23, no hint: STATE for each property, and all stays; BAD comes before it. */
    static void hintedWithoutHint() {
        for (int what = 0; what <= 4; what++) {
            int property = what;
            Stays.all("hinted(" + what + ")", HintsBoundsTest::withoutHint, x -> x.hinted(property), STATE);
        }
        Stays.all("hinted(-1)", HintsBoundsTest::withoutHint, x -> x.hinted(-1), BAD);
        Stays.all("hinted(5)", HintsBoundsTest::withoutHint, x -> x.hinted(5), BAD);
        Stays.all("hinted(max)", HintsBoundsTest::withoutHint, x -> x.hinted(Integer.MAX_VALUE), BAD);
    }

    /** Promise 23, with a hint: each property, and all stays. */
    static void hintedEach() {
        long[] due = {1, 0, 0, 2, 0};
        for (int what = 0; what <= 4; what++) {
            int property = what;
            Stays.all("hinted(" + what + ")", x -> x.hinted(property), due[what]);
        }
    }

    /** Promise 23, the line of level 3: NONE, and only then. */
    static void hintedLineOfLevelThree() {
        PictureClues x = Puzzles.loaded(4, 2, 1, MarksTest.TRIALS);
        x.hint();
        Due.is("level 3: hinted(4)", x.hinted(4), NONE);
        x.takeHint();
        Due.is("hint()", x.hint(), 1);
        Due.is("level 1: hinted(4)", x.hinted(4) >= 0 ? 1 : 0, 1);
    }

    /** Promise 23, the kept hint is what it was, when the marks of its cell are other ones. */
    static void hintedAfterMarks() {
        PictureClues x = Stays.busy();
        x.setMark(0, 0, 4);
        Due.are("hinted(..)", Puzzles.hinted(x), 1, 0, 0, 2, 0);
    }

    // ---- promise 24

    /** Promise 24, no hint: STATE, and all stays. */
    static void takeHintWithoutHint() {
        Stays.all("takeHint()", HintsBoundsTest::withoutHint, PictureClues::takeHint, STATE);
        Due.is("takeHint() of a new one", new PictureClues().takeHint(), STATE);
    }

    /** Promise 24, no color in common: STATE, and all stays, the hint, too. */
    static void takeHintWithoutCommonColor() {
        Stays.all("takeHint()", () -> {
            PictureClues x = Stays.busy();
            x.setMark(0, 0, 5);
            return x;
        }, PictureClues::takeHint, STATE);
    }

    /** Promise 24, one color in common, and all of them: the mark is what both have; the rest stays, and undo() restores it. */
    static void takeHintIsAChange() {
        Stays.but("m", "takeHint()", PictureClues::takeHint, 2);
        Stays.change("takeHint()", PictureClues::takeHint, 2);
        PictureClues x = started(3, 1, 3);
        x.addBlock(0, 1, 2);
        x.addBlock(0, 1, 1);
        hint("of two colors", x, 2, 0, 0, 5, 0);
        x.setMark(0, 0, 6);
        Due.is("one in common: takeHint()", x.takeHint(), 4);
        x.setMark(0, 0, 5);
        Due.is("all in common: takeHint()", x.takeHint(), 5);
        x.setMark(0, 0, 15);
        Due.is("some more: takeHint()", x.takeHint(), 5);
        Due.is("mark(0, 0)", x.mark(0, 0), 5);
    }

    private static PictureClues taken() {
        PictureClues x = Stays.busy();
        x.takeHint();
        return x;
    }

    /** Promise 24, the same hint twice: nothing becomes different, and it is a change all the same. */
    static void takeHintTwice() {
        Stays.but("", "takeHint()", HintsBoundsTest::taken, PictureClues::takeHint, 2);
        Stays.change("takeHint()", HintsBoundsTest::taken, PictureClues::takeHint, 2);
    }

    /** Promise 24, a hint whose clue is gone is taken all the same: it is kept. */
    static void takeHintWithoutClue() {
        PictureClues x = Stays.busy();
        x.setClue(0, false);
        x.setMark(0, 0, 3);
        Due.is("takeHint()", x.takeHint(), 2);
    }
}
