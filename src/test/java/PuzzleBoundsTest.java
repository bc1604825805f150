/** The boundary cases of promises 1 to 9: size, clues, picture. Each case tells its promise first. */
public final class PuzzleBoundsTest {
    private static final int NONE = PictureClues.NONE, BAD = PictureClues.BAD, STATE = PictureClues.STATE;

    public static void main(String[] args) throws IllegalAccessException {
        Cases.run(PuzzleBoundsTest.class);
    }

    private static PictureClues started(int width, int height, int colors) {
        PictureClues x = new PictureClues();
        Due.is("start(" + width + ", " + height + ", " + colors + ")", x.start(width, height, colors), width + height);
        return x;
    }

    private static void numbersOfBlock(String which, PictureClues x, int line, int block, long... due) {
        for (int what = 0; what < due.length; what++) {
            Due.is(which + ": block(" + line + ", " + block + ", " + what + ")", x.block(line, block, what), due[what]);
        }
    }

    // ---- promise 1

    /** Promise 1, the bounds of a new puzzle: width and height are 5, the cells behind them do not exist. */
    static void newIsFiveByFive() {
        PictureClues x = new PictureClues();
        Due.is("count(0)", x.count(0), 5);
        Due.is("count(1)", x.count(1), 5);
        Due.is("mark(4, 4)", x.mark(4, 4), 3);
        Due.is("mark(5, 4)", x.mark(5, 4), BAD);
        Due.is("mark(4, 5)", x.mark(4, 5), BAD);
        Due.is("line(9, 1)", x.line(9, 1), 0);
        Due.is("line(10, 1)", x.line(10, 1), BAD);
    }

    /** Promise 1, the bounds of a new puzzle: it has one color, the color 2 does not exist. */
    static void newHasOneColor() {
        PictureClues x = new PictureClues();
        Due.is("count(2)", x.count(2), 1);
        Due.is("addBlock(0, 1, 2)", x.addBlock(0, 1, 2), BAD);
        Due.is("paint(0, 0, 1, 1, 2)", x.paint(0, 0, 1, 1, 2), BAD);
        Due.is("setMark(0, 0, 4)", x.setMark(0, 0, 4), BAD);
        Due.is("addBlock(0, 1, 1)", x.addBlock(0, 1, 1), 1);
    }

    /** Promise 1, a new puzzle is empty: no line has a clue, all marks are full, the picture is empty. */
    static void newHasNothing() {
        PictureClues x = new PictureClues();
        Puzzles.same("clues", Puzzles.clues(x), "any;any;any;any;any;any;any;any;any;any");
        for (int i = 0; i < 25; i++) {
            Due.is("mark of cell " + i, x.mark(i % 5, i / 5), 3);
            Due.is("picture of cell " + i, x.picture(i % 5, i / 5), 0);
        }
        for (int what = 3; what <= 10; what++) {
            Due.is("count(" + what + ")", x.count(what), 0);
        }
    }

    /** Promise 1, empty text: there is nothing to clear, and it ends too early for load(). */
    static void newHasEmptyText() {
        PictureClues x = new PictureClues();
        Due.is("count(9)", x.count(9), 0);
        Due.is("load()", x.load(), -2000);
        Due.is("clear()", x.clear(), 0);
    }

    /** Promise 1, empty history and no hint: undo(), hinted() and takeHint() are not possible. */
    static void newHasNoHistoryAndNoHint() {
        PictureClues x = new PictureClues();
        Due.is("undo()", x.undo(), STATE);
        Due.is("hinted(0)", x.hinted(0), STATE);
        Due.is("takeHint()", x.takeHint(), STATE);
        Due.is("hint()", x.hint(), NONE);
    }

    /** Promise 1, a second object is empty, whatever the first one holds, and stays so. */
    static void newObjectsShareNothing() {
        PictureClues first = Stays.busy();
        PictureClues second = new PictureClues();
        long before = second.digest();
        long firstBefore = first.digest();
        first.narrow(3);
        first.solve();
        first.difficulty();
        Due.is("the digest of the second", second.digest(), before);
        Due.is("the digest of a third", new PictureClues().digest(), before);
        second.start(8, 8, 3);
        second.paint(0, 0, 8, 8, 3);
        second.takeClues();
        second.type(65);
        first.undo();
        first.undo();
        Due.is("states of the first", first.count(8), 6);
        Due.is("is the first as it was, but for its states?", first.count(2) == 2 && first.picture(1, 0) == 2 ? 1 : 0, 1);
        Due.is("is its digest another one then?", first.digest() != firstBefore ? 1 : 0, 1);
    }

    // ---- promise 2

    /** Promise 2, the least puzzle: 1 by 1 with 1 color has two lines of one cell. */
    static void startLeast() {
        PictureClues x = started(1, 1, 1);
        Due.is("mark(0, 0)", x.mark(0, 0), 3);
        Due.is("mark(1, 0)", x.mark(1, 0), BAD);
        Due.is("mark(0, 1)", x.mark(0, 1), BAD);
        Due.is("line(1, 2)", x.line(1, 2), 2);
        Due.is("line(2, 2)", x.line(2, 2), BAD);
        Due.is("addBlock(1, 1, 1)", x.addBlock(1, 1, 1), 1);
        Due.is("solve()", x.solve(), 1);
    }

    /** Promise 2, the greatest puzzle: 8 by 8 with 3 colors has 16 lines of 8 cells. */
    static void startGreatest() {
        PictureClues x = started(8, 8, 3);
        Due.is("mark(7, 7)", x.mark(7, 7), 15);
        Due.is("mark(8, 7)", x.mark(8, 7), BAD);
        Due.is("mark(7, 8)", x.mark(7, 8), BAD);
        Due.is("line(15, 2)", x.line(15, 2), 65536);
        Due.is("line(16, 2)", x.line(16, 2), BAD);
        Due.is("addBlock(15, 8, 3)", x.addBlock(15, 8, 3), 1);
        Due.is("solve()", x.solve(), 8);
    }

    /** Promise 2, the least width with the greatest height: lines 0 to 7 have one cell, line 8 has eight. */
    static void startLeastWidth() {
        PictureClues x = started(1, 8, 1);
        Due.is("line(7, 2)", x.line(7, 2), 2);
        Due.is("line(8, 2)", x.line(8, 2), 256);
        Due.is("line(9, 2)", x.line(9, 2), BAD);
        Due.is("mark(0, 7)", x.mark(0, 7), 3);
        Due.is("mark(7, 0)", x.mark(7, 0), BAD);
    }

    /** Promise 2, the greatest width with the least height: line 0 has eight cells, lines 1 to 8 have one. */
    static void startLeastHeight() {
        PictureClues x = started(8, 1, 1);
        Due.is("line(0, 2)", x.line(0, 2), 256);
        Due.is("line(1, 2)", x.line(1, 2), 2);
        Due.is("line(8, 2)", x.line(8, 2), 2);
        Due.is("line(9, 2)", x.line(9, 2), BAD);
        Due.is("mark(7, 0)", x.mark(7, 0), 3);
        Due.is("mark(0, 7)", x.mark(0, 7), BAD);
    }

    /** Promise 2, width too small: below 1 is BAD, and all stays, the history and the hint, too. */
    static void startWidthTooSmall() {
        Stays.below(1, "start(n, 3, 2)", (x, n) -> x.start(n, 3, 2));
    }

    /** Promise 2, width too large: above 8 is BAD, and all stays. */
    static void startWidthTooLarge() {
        Stays.above(8, "start(n, 3, 2)", (x, n) -> x.start(n, 3, 2));
    }

    /** Promise 2, height too small: below 1 is BAD, and all stays. */
    static void startHeightTooSmall() {
        Stays.below(1, "start(5, n, 2)", (x, n) -> x.start(5, n, 2));
    }

    /** Promise 2, height too large: above 8 is BAD, and all stays. */
    static void startHeightTooLarge() {
        Stays.above(8, "start(5, n, 2)", (x, n) -> x.start(5, n, 2));
    }

    /** Promise 2, too few colors: below 1 is BAD, and all stays. */
    static void startColorsTooFew() {
        Stays.below(1, "start(5, 3, n)", (x, n) -> x.start(5, 3, n));
    }

    /** Promise 2, too many colors: above 3 is BAD, and all stays. */
    static void startColorsTooMany() {
        Stays.above(3, "start(5, 3, n)", (x, n) -> x.start(5, 3, n));
    }

    /** Promise 2, each number is at its bound in turn: all of 1 and 8, and of 1 and 3, are taken. */
    static void startAllBounds() {
        for (int width : new int[] {1, 8}) {
            for (int height : new int[] {1, 8}) {
                for (int colors : new int[] {1, 2, 3}) {
                    PictureClues x = started(width, height, colors);
                    Due.is("the last mark", x.mark(width - 1, height - 1), (2 << colors) - 1);
                    Due.is("paint() with the last color", x.paint(0, 0, width, height, colors), width * height);
                    Due.is("paint() with the color behind", x.paint(0, 0, 1, 1, colors + 1), BAD);
                }
            }
        }
    }

    /** Promise 2, begins anew at the same size: clues, marks, picture, history and hint go, and the text stays. */
    static void startAnew() {
        Stays.but("cmphn", "start(5, 3, 2)", x -> x.start(5, 3, 2), 8);
        PictureClues x = Stays.busy();
        x.start(5, 3, 2);
        Puzzles.same("clues", Puzzles.clues(x), "any;any;any;any;any;any;any;any");
        Due.are("marks", Puzzles.marks(x), 7, 7, 7, 7, 7, 7, 7, 7, 7, 7, 7, 7, 7, 7, 7);
        Due.are("picture", Puzzles.picture(x), 0, 0, 0, 0, 0, 0, 0, 0, 0, 0, 0, 0, 0, 0, 0);
        Due.are("hinted(..)", Puzzles.hinted(x), STATE, STATE, STATE, STATE, STATE);
        Due.is("takeHint()", x.takeHint(), STATE);
    }

    /** Promise 2, empty history: a full history is gone, and the next change is the first state again. */
    static void startEmptiesHistory() {
        PictureClues x = Stays.busy();
        Due.is("a full history", x.count(8), 8);
        x.start(2, 2, 1);
        Due.is("count(8)", x.count(8), 0);
        Due.is("undo()", x.undo(), STATE);
        x.paint(0, 0, 1, 1, 1);
        Due.is("undo() of one change", x.undo(), 0);
        Due.is("undo() again", x.undo(), STATE);
        Due.is("count(0)", x.count(0), 2);
    }

    /** Promise 2, empty puzzle: nothing of a greater one comes back when sizes become smaller and great again. */
    static void startSmallerAndGreater() {
        PictureClues x = started(8, 8, 3);
        x.paint(0, 0, 8, 8, 3);
        x.takeClues();
        x.narrow(2);
        Due.is("known cells of the great one", x.count(4), 64);
        x.start(1, 1, 1);
        Due.is("mark(0, 0) of the small one", x.mark(0, 0), 3);
        Due.is("solutions(99) of the small one", x.solutions(99), 2);
        x.start(8, 8, 3);
        for (int i = 0; i < 64; i++) {
            Due.is("mark of cell " + i, x.mark(i % 8, i / 8), 15);
            Due.is("picture of cell " + i, x.picture(i % 8, i / 8), 0);
        }
        Due.is("lines with a clue", x.count(3), 0);
        Due.is("solve()", x.solve(), 0);
    }

    /** Promise 2, the text stays: what was typed before start() is loaded after it. */
    static void startKeepsText() {
        PictureClues x = new PictureClues();
        Puzzles.type(x, "1c;none");
        Due.is("start(1, 1, 3)", x.start(1, 1, 3), 2);
        Stays.text("after start", x, "1c;none");
        Due.is("load()", x.load(), 1);
        Puzzles.same("clues", Puzzles.clues(x), "1c;none");
    }

    /** Promise 2, the text stays when it is full: all 120 bytes are there, and no further one is taken. */
    static void startKeepsFullText() {
        PictureClues x = new PictureClues();
        String full = "any;1" + " ".repeat(115);
        Puzzles.type(x, full);
        x.start(1, 1, 1);
        Stays.text("after start", x, full);
        Due.is("type(32)", x.type(32), STATE);
        Due.is("load()", x.load(), 1);
    }

    // ---- promise 3

    /** Promise 3, line too small: below 0 is BAD, and all stays. */
    static void addBlockLineTooSmall() {
        Stays.below(0, "addBlock(n, 1, 1)", (x, n) -> x.addBlock(n, 1, 1));
    }

    /** Promise 3, line too large: behind the last column is BAD, and all stays. */
    static void addBlockLineTooLarge() {
        Stays.above(7, "addBlock(n, 1, 1)", (x, n) -> x.addBlock(n, 1, 1));
    }

    /** Promise 3, length too small: below 1 is BAD, and all stays. */
    static void addBlockLengthTooSmall() {
        Stays.below(1, "addBlock(4, n, 1)", (x, n) -> x.addBlock(4, n, 1));
        Stays.below(1, "addBlock(3, n, 1)", (x, n) -> x.addBlock(3, n, 1));
    }

    /** Promise 3, length too large: above 8 is BAD, and all stays. */
    static void addBlockLengthTooLarge() {
        Stays.above(8, "addBlock(4, n, 1)", (x, n) -> x.addBlock(4, n, 1));
    }

    /** Promise 3, color too small: 0 is no color of a block, it is BAD, and all stays. */
    static void addBlockColorTooSmall() {
        Stays.below(1, "addBlock(4, 1, n)", (x, n) -> x.addBlock(4, 1, n));
    }

    /** Promise 3, color too large: one that the puzzle does not have is BAD, and all stays. */
    static void addBlockColorTooLarge() {
        Stays.above(2, "addBlock(4, 1, n)", (x, n) -> x.addBlock(4, 1, n));
    }

    /** Promise 3, the first and the last line, row and column, take blocks: 0, 2, 3 and 7 of 5 by 3 cells. */
    static void addBlockFirstAndLastLine() {
        PictureClues x = started(5, 3, 2);
        Due.is("addBlock(0, 5, 1)", x.addBlock(0, 5, 1), 1);
        Due.is("addBlock(2, 4, 2)", x.addBlock(2, 4, 2), 1);
        Due.is("addBlock(3, 3, 1)", x.addBlock(3, 3, 1), 1);
        Due.is("addBlock(7, 2, 2)", x.addBlock(7, 2, 2), 1);
        Puzzles.same("clues", Puzzles.clues(x), "5a;any;4b;3a;any;any;any;2b");
    }

    /** Promise 3, a line without a clue gets a clue with this block alone; a clue without blocks gets it, too. */
    static void addBlockToNoneAndEmpty() {
        PictureClues x = started(5, 3, 2);
        Due.is("line(1, 0)", x.line(1, 0), NONE);
        Due.is("addBlock(1, 2, 2)", x.addBlock(1, 2, 2), 1);
        Due.is("line(1, 0)", x.line(1, 0), 1);
        x.setClue(4, true);
        Due.is("addBlock(4, 1, 1)", x.addBlock(4, 1, 1), 1);
        Puzzles.same("clues", Puzzles.clues(x), "any;2b;any;any;1a;any;any;any");
    }

    /** Promise 3, the clue that was removed does not come back: the block is alone then. */
    static void addBlockAfterRemoval() {
        PictureClues x = started(5, 3, 2);
        x.addBlock(0, 1, 1);
        x.addBlock(0, 1, 2);
        x.setClue(0, false);
        Due.is("addBlock(0, 5, 2)", x.addBlock(0, 5, 2), 1);
        Due.is("line(0, 1)", x.line(0, 1), 5);
    }

    /** Promise 3, full: a room as great as the line is taken, by one block and by several, in a row and in a column. */
    static void addBlockRoomFull() {
        PictureClues x = started(5, 3, 2);
        Due.is("addBlock(0, 5, 1)", x.addBlock(0, 5, 1), 1);
        Due.is("line(0, 1)", x.line(0, 1), 5);
        x.addBlock(1, 2, 1);
        Due.is("addBlock(1, 2, 1)", x.addBlock(1, 2, 1), 2);
        Due.is("line(1, 1)", x.line(1, 1), 5);
        x.addBlock(2, 2, 1);
        Due.is("addBlock(2, 3, 2)", x.addBlock(2, 3, 2), 2);
        Due.is("line(2, 1)", x.line(2, 1), 5);
        Due.is("addBlock(3, 3, 1)", x.addBlock(3, 3, 1), 1);
        x.addBlock(4, 1, 2);
        Due.is("addBlock(4, 1, 2)", x.addBlock(4, 1, 2), 2);
        Due.is("line(4, 1)", x.line(4, 1), 3);
    }

    /** Promise 3, room one too great: STATE in a row and in a column without a clue, which get none by it. */
    static void addBlockRoomTooGreatAlone() {
        Stays.all("addBlock(4, 4, 1)", x -> x.addBlock(4, 4, 1), STATE);
        Stays.all("addBlock(4, 8, 2)", x -> x.addBlock(4, 8, 2), STATE);
        PictureClues x = started(5, 3, 1);
        Due.is("addBlock(0, 6, 1)", x.addBlock(0, 6, 1), STATE);
        Due.is("line(0, 0)", x.line(0, 0), NONE);
        Due.is("count(8)", x.count(8), 0);
        x.setClue(0, true);
        Due.is("addBlock(0, 6, 1) to a clue without blocks", x.addBlock(0, 6, 1), STATE);
        Due.is("line(0, 0)", x.line(0, 0), 0);
    }

    /** Promise 3, room one too great: STATE behind blocks, and all stays. */
    static void addBlockRoomTooGreatBehindBlocks() {
        Stays.all("addBlock(0, 1, 2)", x -> x.addBlock(0, 1, 2), STATE);
        Stays.all("addBlock(0, 1, 1)", x -> x.addBlock(0, 1, 1), STATE);
        Stays.all("addBlock(1, 2, 2)", x -> x.addBlock(1, 2, 2), STATE);
        Stays.all("addBlock(1, 3, 1)", x -> x.addBlock(1, 3, 1), STATE);
        Stays.all("addBlock(7, 2, 1)", x -> x.addBlock(7, 2, 1), STATE);
        Stays.all("addBlock(7, 3, 2)", x -> x.addBlock(7, 3, 2), STATE);
    }

    /** Promise 3, the room counts 1 between blocks of the same color, and nothing between others: at the bound. */
    static void addBlockRoomBetweenColors() {
        PictureClues x = started(4, 4, 2);
        x.addBlock(0, 2, 1);
        Due.is("addBlock(0, 2, 1)", x.addBlock(0, 2, 1), STATE);
        Due.is("addBlock(0, 2, 2)", x.addBlock(0, 2, 2), 2);
        Due.is("line(0, 1)", x.line(0, 1), 4);
        x.addBlock(1, 1, 1);
        x.addBlock(1, 1, 2);
        Due.is("addBlock(1, 2, 2)", x.addBlock(1, 2, 2), STATE);
        Due.is("addBlock(1, 2, 1), not next to its color", x.addBlock(1, 2, 1), 3);
        Due.is("line(1, 1)", x.line(1, 1), 4);
    }

    /** Promise 3, the greatest length and the most blocks: one of 8, and eight of 1, fill 8 cells; a ninth is STATE. */
    static void addBlockEightOfEight() {
        PictureClues x = started(8, 8, 3);
        Due.is("addBlock(0, 8, 1)", x.addBlock(0, 8, 1), 1);
        Due.is("addBlock(8, 8, 3)", x.addBlock(8, 8, 3), 1);
        for (int i = 0; i < 8; i++) {
            Due.is("block " + i + " of line 1", x.addBlock(1, 1, 1 + i % 2), i + 1);
            Due.is("block " + i + " of line 15", x.addBlock(15, 1, 3 - i % 3), i + 1);
        }
        for (int color = 1; color <= 3; color++) {
            Due.is("a ninth of line 1", x.addBlock(1, 1, color), STATE);
            Due.is("a ninth of line 15", x.addBlock(15, 1, color), STATE);
        }
        Due.is("line(1, 0)", x.line(1, 0), 8);
        Due.is("line(15, 1)", x.line(15, 1), 8);
        numbersOfBlock("the last block", x, 15, 7, 1, 2, 7, 7);
    }

    /** Promise 3, several errors: BAD comes before STATE, at a full line and with a length that is too great for it. */
    static void addBlockBadBeforeState() {
        Stays.all("addBlock(0, 1, 3)", x -> x.addBlock(0, 1, 3), BAD);
        Stays.all("addBlock(0, 9, 1)", x -> x.addBlock(0, 9, 1), BAD);
        Stays.all("addBlock(4, 8, 0)", x -> x.addBlock(4, 8, 0), BAD);
        Stays.all("addBlock(8, 8, 1)", x -> x.addBlock(8, 8, 1), BAD);
    }

    /** Promise 3, a change with a full history: only the clue becomes another one, and undo() takes the clue away again. */
    static void addBlockIsAChange() {
        Stays.but("c", "addBlock(4, 3, 2)", x -> x.addBlock(4, 3, 2), 1);
        Stays.change("addBlock(4, 3, 2)", x -> x.addBlock(4, 3, 2), 1);
        Stays.change("addBlock(2, 1, 1)", x -> x.addBlock(2, 1, 1), 1);
        Stays.change("addBlock(1, 1, 2)", x -> x.addBlock(1, 1, 2), 2);
    }

    // ---- promise 4

    /** Promise 4, line too small: below 0 is BAD, with a clue and without, and all stays. */
    static void setClueLineTooSmall() {
        Stays.below(0, "setClue(n, true)", (x, n) -> x.setClue(n, true));
        Stays.below(0, "setClue(n, false)", (x, n) -> x.setClue(n, false));
    }

    /** Promise 4, line too large: behind the last column is BAD, with a clue and without, and all stays. */
    static void setClueLineTooLarge() {
        Stays.above(7, "setClue(n, true)", (x, n) -> x.setClue(n, true));
        Stays.above(7, "setClue(n, false)", (x, n) -> x.setClue(n, false));
    }

    /** Promise 4, a line without a clue: answers 0, and removing nothing is a change, too. */
    static void setClueOfNone() {
        PictureClues x = started(5, 3, 1);
        Due.is("setClue(7, false)", x.setClue(7, false), 0);
        Due.is("line(7, 0)", x.line(7, 0), NONE);
        Due.is("count(8)", x.count(8), 1);
        Due.is("setClue(7, true)", x.setClue(7, true), 0);
        Due.is("line(7, 0)", x.line(7, 0), 0);
        Due.is("count(8)", x.count(8), 2);
        Stays.but("", "setClue(4, false)", y -> y.setClue(4, false), 0);
        Stays.change("setClue(4, false)", y -> y.setClue(4, false), 0);
    }

    /** Promise 4, a clue without blocks: answers 1, whether it stays so or is removed. */
    static void setClueOfEmpty() {
        Stays.but("", "setClue(2, true)", x -> x.setClue(2, true), 1);
        Stays.change("setClue(2, true)", x -> x.setClue(2, true), 1);
        Stays.but("c", "setClue(2, false)", x -> x.setClue(2, false), 1);
        Stays.change("setClue(2, false)", x -> x.setClue(2, false), 1);
    }

    /** Promise 4, a full clue: answers 1, and no block nor room is left; other lines stay. */
    static void setClueOfFull() {
        Stays.but("c", "setClue(0, true)", x -> x.setClue(0, true), 1);
        Stays.change("setClue(0, true)", x -> x.setClue(0, true), 1);
        Stays.but("c", "setClue(0, false)", x -> x.setClue(0, false), 1);
        Stays.change("setClue(0, false)", x -> x.setClue(0, false), 1);
        PictureClues x = Stays.busy();
        x.setClue(0, true);
        Puzzles.same("clues", Puzzles.clues(x), "none;3b;none;1a;any;any;any;1a");
        Due.is("line(0, 1)", x.line(0, 1), 0);
        Due.is("block(0, 0, 0)", x.block(0, 0, 0), BAD);
        Due.is("addBlock(0, 5, 1)", x.addBlock(0, 5, 1), 1);
        x.setClue(0, false);
        Puzzles.same("clues", Puzzles.clues(x), "any;3b;none;1a;any;any;any;1a");
        Due.is("line(0, 1)", x.line(0, 1), 0);
    }

    /** Promise 4, first and last line: both can get a clue without blocks, row and column. */
    static void setClueFirstAndLastLine() {
        PictureClues x = started(2, 2, 1);
        for (int line = 0; line < 4; line++) {
            Due.is("setClue(" + line + ", true)", x.setClue(line, true), 0);
        }
        Puzzles.same("clues", Puzzles.clues(x), "none;none;none;none");
        Due.is("setClue(3, false)", x.setClue(3, false), 1);
        Due.is("setClue(0, false)", x.setClue(0, false), 1);
        Puzzles.same("clues", Puzzles.clues(x), "any;none;none;any");
    }

    // ---- promise 5

    /** Promise 5, line too small: below 0 is BAD for each property, and all stays. */
    static void lineTooSmall() {
        for (int what = 0; what <= 4; what++) {
            int property = what;
            Stays.below(0, "line(n, " + what + ")", (x, n) -> x.line(n, property));
        }
    }

    /** Promise 5, line too large: behind the last column is BAD for each property, and all stays. */
    static void lineTooLarge() {
        for (int what = 0; what <= 4; what++) {
            int property = what;
            Stays.above(7, "line(n, " + what + ")", (x, n) -> x.line(n, property));
        }
    }

    /** Promise 5, property too small or too large: BAD for lines with a clue, without blocks and without a clue. */
    static void linePropertyOutside() {
        for (int line : new int[] {0, 2, 4, 7}) {
            Stays.below(0, "line(" + line + ", n)", (x, n) -> x.line(line, n));
            Stays.above(4, "line(" + line + ", n)", (x, n) -> x.line(line, n));
        }
    }

    /** Promise 5, no error changes NONE: a line without a clue answers it for its blocks alone, and other numbers for the rest. */
    static void lineWithoutClue() {
        long[] due = {NONE, 0, 3 * 3 * 3, 0, 0};
        for (int what = 0; what <= 4; what++) {
            int property = what;
            Stays.all("line(4, " + what + ")", x -> x.line(4, property), due[what]);
        }
    }

    /** Promise 5, a clue without blocks: 0 blocks, room 0, one filling. */
    static void lineWithEmptyClue() {
        long[] due = {0, 0, 1, 0, 0};
        for (int what = 0; what <= 4; what++) {
            int property = what;
            Stays.all("line(2, " + what + ")", x -> x.line(2, property), due[what]);
        }
    }

    /** Promise 5, a full clue: as much room as cells, and one filling. */
    static void lineWithFullClue() {
        long[] due = {2, 5, 1, 0, 0};
        for (int what = 0; what <= 4; what++) {
            int property = what;
            Stays.all("line(0, " + what + ")", x -> x.line(0, property), due[what]);
        }
        PictureClues x = started(8, 8, 3);
        for (int i = 0; i < 8; i++) {
            x.addBlock(15, 1, 1 + i % 3);
        }
        Due.is("8 blocks: line(15, 0)", x.line(15, 0), 8);
        Due.is("8 blocks: line(15, 1)", x.line(15, 1), 8);
        Due.is("8 blocks: line(15, 2)", x.line(15, 2), 1);
    }

    /** Promise 5, the most and the fewest fillings without a clue: 4 to the 8, and one when all cells are known. */
    static void lineFillingsWithoutClue() {
        PictureClues x = started(8, 8, 3);
        Due.is("line(0, 2)", x.line(0, 2), 65536);
        Due.is("line(15, 2)", x.line(15, 2), 65536);
        for (int i = 0; i < 8; i++) {
            x.setMark(7, i, 1 << i % 4);
            x.setMark(i, 7, 1 << i % 4);
        }
        Due.is("all known: line(7, 2)", x.line(7, 2), 1);
        Due.is("all known: line(15, 2)", x.line(15, 2), 1);
        Due.is("one known: line(0, 2)", x.line(0, 2), 16384);
    }

    /** Promise 5, the most fillings with a clue in 8 cells: 70 for four blocks of changing colors; 0 if the line is wrong. */
    static void lineFillingsWithClue() {
        PictureClues x = started(8, 8, 2);
        for (int i = 0; i < 4; i++) {
            x.addBlock(0, 1, 1 + i % 2);
            x.addBlock(8, 1, 1);
        }
        Due.is("changing colors: line(0, 2)", x.line(0, 2), 70);
        Due.is("one color: line(8, 2)", x.line(8, 2), 5);
        for (int i = 0; i < 5; i++) {
            x.setMark(i, 0, 1);
        }
        Due.is("three cells left: line(0, 2)", x.line(0, 2), 0);
        Due.is("three cells left: line(0, 4)", x.line(0, 4), 1);
    }

    /** Promise 5, no cell and all cells of a line are known: 0, and its number of cells. */
    static void lineKnownCells() {
        PictureClues x = started(8, 2, 3);
        Due.is("none: line(0, 3)", x.line(0, 3), 0);
        for (int i = 0; i < 8; i++) {
            x.setMark(i, 1, 1 << i % 4);
            Due.is("line(1, 3)", x.line(1, 3), i + 1);
        }
        Due.is("line(9, 3)", x.line(9, 3), 1);
        x.setMark(7, 0, 12);
        Due.is("two colors are not known: line(9, 3)", x.line(9, 3), 1);
        x.setMark(7, 0, 8);
        Due.is("all: line(9, 3)", x.line(9, 3), 2);
    }

    /** Promise 5, one color or more: a cell is known with each set of one color, and not with any other, full or not. */
    static void lineKnownBySet() {
        PictureClues x = started(2, 1, 3);
        for (int which = 1; which <= 15; which++) {
            x.setMark(1, 0, which);
            int known = which == 1 || which == 2 || which == 4 || which == 8 ? 1 : 0;
            Due.is("with the set " + which + ": line(0, 3)", x.line(0, 3), known);
            Due.is("with the set " + which + ": line(2, 3)", x.line(2, 3), known);
            Due.is("with the set " + which + ": count(4)", x.count(4), known);
        }
    }

    /** Promise 5, a line without a clue is never wrong; one without blocks is, when a cell cannot be empty. */
    static void lineWrongWithoutBlocks() {
        PictureClues x = started(3, 1, 1);
        x.setMark(1, 0, 2);
        Due.is("without a clue: line(0, 4)", x.line(0, 4), 0);
        x.setClue(0, true);
        Due.is("without blocks: line(0, 4)", x.line(0, 4), 1);
        Due.is("without blocks: line(0, 2)", x.line(0, 2), 0);
        Due.is("the column without a clue: line(2, 4)", x.line(2, 4), 0);
        Due.is("WRONG is no property: line(0, 0)", x.line(0, 0), 0);
    }

    // ---- promise 6

    /** Promise 6, line too small or too large: BAD, and all stays. */
    static void blockLineOutside() {
        for (int what = 0; what <= 3; what++) {
            int property = what;
            Stays.below(0, "block(n, 0, " + what + ")", (x, n) -> x.block(n, 0, property));
            Stays.above(7, "block(n, 0, " + what + ")", (x, n) -> x.block(n, 0, property));
        }
    }

    /** Promise 6, block too small or too large: BAD before the first and behind the last block, and all stays. */
    static void blockNumberOutside() {
        for (int what = 0; what <= 3; what++) {
            int property = what;
            Stays.below(0, "block(0, n, " + what + ")", (x, n) -> x.block(0, n, property));
            Stays.above(1, "block(0, n, " + what + ")", (x, n) -> x.block(0, n, property));
            Stays.above(0, "block(7, n, " + what + ")", (x, n) -> x.block(7, n, property));
        }
    }

    /** Promise 6, property too small or too large: BAD, and all stays. */
    static void blockPropertyOutside() {
        Stays.below(0, "block(0, 1, n)", (x, n) -> x.block(0, 1, n));
        Stays.above(3, "block(0, 1, n)", (x, n) -> x.block(0, 1, n));
    }

    /** Promise 6, no such block: BAD in a line without a clue, and in one whose clue is empty. */
    static void blockOfNoneAndEmpty() {
        for (int what = 0; what <= 3; what++) {
            int property = what;
            Stays.all("without a clue: block(4, 0, " + what + ")", x -> x.block(4, 0, property), BAD);
            Stays.all("without blocks: block(2, 0, " + what + ")", x -> x.block(2, 0, property), BAD);
        }
    }

    /** Promise 6, no such block: BAD for the blocks of a clue that was full before it was made empty. */
    static void blockOfEmptied() {
        PictureClues x = Stays.busy();
        x.setClue(0, true);
        Due.is("block(0, 0, 1)", x.block(0, 0, 1), BAD);
        x.addBlock(0, 1, 2);
        numbersOfBlock("the only one", x, 0, 0, 1, 2, 0, 4);
        Due.is("block(0, 1, 0)", x.block(0, 1, 0), BAD);
    }

    /** Promise 6, a wrong line: NONE for the starts alone, length and color stay. */
    static void blockOfWrongLine() {
        long[] due = {2, 1, NONE, NONE};
        for (int what = 0; what <= 3; what++) {
            int property = what;
            Stays.all("block(0, 1, " + what + ")", Stays::wrong, x -> x.block(0, 1, property), due[what]);
        }
        PictureClues x = Stays.wrong();
        numbersOfBlock("a line that is not wrong", x, 1, 0, 3, 2, 0, 2);
    }

    /** Promise 6, several apply: BAD comes before the NONE of a wrong line. */
    static void blockBadBeforeNone() {
        Stays.all("block(0, 2, 2)", Stays::wrong, x -> x.block(0, 2, 2), BAD);
        Stays.all("block(0, -1, 3)", Stays::wrong, x -> x.block(0, -1, 3), BAD);
        Stays.all("block(0, 0, 4)", Stays::wrong, x -> x.block(0, 0, 4), BAD);
    }

    /** Promise 6, the bounds of the starts: the least is 0, the greatest is the last cell, and full clues leave no choice. */
    static void blockStartsAtBounds() {
        PictureClues x = started(8, 2, 3);
        x.addBlock(0, 1, 3);
        numbersOfBlock("1 in 8", x, 0, 0, 1, 3, 0, 7);
        x.addBlock(1, 8, 2);
        numbersOfBlock("8 in 8", x, 1, 0, 8, 2, 0, 0);
        x.addBlock(2, 2, 2);
        numbersOfBlock("2 in 2", x, 2, 0, 2, 2, 0, 0);
        x.addBlock(9, 1, 1);
        numbersOfBlock("1 in 2", x, 9, 0, 1, 1, 0, 1);
        x.setMark(0, 0, 7);
        x.setMark(7, 0, 7);
        numbersOfBlock("1 in 8 but for the ends", x, 0, 0, 1, 3, 1, 6);
        x.setMark(5, 0, 8);
        numbersOfBlock("1 in 8 at a known cell", x, 0, 0, 1, 3, 5, 5);
    }

    /** Promise 6, starts next to a known cell: the block ends at it at the earliest, begins at it at the latest, in the line. */
    static void blockStartsAroundKnownCell() {
        for (int length = 1; length <= 8; length++) {
            for (int cell = 0; cell < 8; cell++) {
                int earliest = Math.max(0, cell - length + 1);
                int latest = Math.min(cell, 8 - length);
                String which = length + " with the cell " + cell;
                PictureClues row = started(8, 1, 2);
                row.addBlock(0, length, 2);
                row.setMark(cell, 0, 4);
                numbersOfBlock("row: " + which, row, 0, 0, length, 2, earliest, latest);
                PictureClues column = started(1, 8, 2);
                column.addBlock(8, length, 2);
                column.setMark(0, cell, 4);
                numbersOfBlock("column: " + which, column, 8, 0, length, 2, earliest, latest);
            }
        }
    }

    /** Promise 6, starts next to an empty cell: the block ends before it or begins behind it, if there are enough cells. */
    static void blockStartsAroundEmptyCell() {
        for (int length = 1; length <= 7; length++) {
            for (int cell = 0; cell < 8; cell++) {
                PictureClues x = started(8, 1, 1);
                x.addBlock(0, length, 1);
                x.setMark(cell, 0, 1);
                boolean before = cell >= length;
                boolean behind = 8 - cell - 1 >= length;
                int earliest = before ? 0 : behind ? cell + 1 : NONE;
                int latest = behind ? 8 - length : before ? cell - length : NONE;
                numbersOfBlock(length + " without the cell " + cell, x, 0, 0, length, 1, earliest, latest);
                Due.is(length + " without the cell " + cell + ": line(0, 4)", x.line(0, 4), before || behind ? 0 : 1);
            }
        }
    }

    /** Promise 6, the most blocks: each of eight in eight cells has its own start. */
    static void blockEightOfEight() {
        PictureClues x = started(8, 1, 3);
        for (int i = 0; i < 8; i++) {
            x.addBlock(0, 1, 1 + i % 3);
        }
        for (int i = 0; i < 8; i++) {
            numbersOfBlock("block " + i, x, 0, i, 1, 1 + i % 3, i, i);
        }
        Due.is("block(0, 8, 0)", x.block(0, 8, 0), BAD);
    }

    // ---- promise 7

    /** Promise 7, x too small or too large: BAD, and all stays. */
    static void paintXOutside() {
        Stays.below(0, "paint(n, 0, 1, 1, 1)", (x, n) -> x.paint(n, 0, 1, 1, 1));
        Stays.above(4, "paint(n, 0, 1, 1, 1)", (x, n) -> x.paint(n, 0, 1, 1, 1));
    }

    /** Promise 7, y too small or too large: BAD, and all stays. */
    static void paintYOutside() {
        Stays.below(0, "paint(0, n, 1, 1, 1)", (x, n) -> x.paint(0, n, 1, 1, 1));
        Stays.above(2, "paint(0, n, 1, 1, 1)", (x, n) -> x.paint(0, n, 1, 1, 1));
    }

    /** Promise 7, width too small: 0 and below is BAD, and all stays. */
    static void paintWidthTooSmall() {
        Stays.below(1, "paint(1, 0, n, 1, 1)", (x, n) -> x.paint(1, 0, n, 1, 1));
    }

    /** Promise 7, width too large: a rectangle that goes one cell beyond the picture is BAD, and all stays. */
    static void paintWidthTooLarge() {
        Stays.above(5, "paint(0, 0, n, 1, 1)", (x, n) -> x.paint(0, 0, n, 1, 1));
        Stays.above(1, "paint(4, 0, n, 1, 1)", (x, n) -> x.paint(4, 0, n, 1, 1));
    }

    /** Promise 7, height too small: 0 and below is BAD, and all stays. */
    static void paintHeightTooSmall() {
        Stays.below(1, "paint(0, 1, 1, n, 1)", (x, n) -> x.paint(0, 1, 1, n, 1));
    }

    /** Promise 7, height too large: a rectangle that goes one cell beyond the picture is BAD, and all stays. */
    static void paintHeightTooLarge() {
        Stays.above(3, "paint(0, 0, 1, n, 1)", (x, n) -> x.paint(0, 0, 1, n, 1));
        Stays.above(1, "paint(0, 2, 1, n, 1)", (x, n) -> x.paint(0, 2, 1, n, 1));
    }

    /** Promise 7, a sum that wraps around: x and width, or y and height, whose sum is in the picture by overflow alone. */
    static void paintWrapsAround() {
        int max = Integer.MAX_VALUE;
        int min = Integer.MIN_VALUE;
        Stays.all("paint(4, 0, max, 1, 1)", x -> x.paint(4, 0, max, 1, 1), BAD);
        Stays.all("paint(0, 2, 1, max, 1)", x -> x.paint(0, 2, 1, max, 1), BAD);
        Stays.all("paint(max, 0, max, 1, 1)", x -> x.paint(max, 0, max, 1, 1), BAD);
        Stays.all("paint(0, max, 1, max, 1)", x -> x.paint(0, max, 1, max, 1), BAD);
        Stays.all("paint(min, 0, min, 1, 1)", x -> x.paint(min, 0, min, 1, 1), BAD);
        Stays.all("paint(0, min, 1, min, 1)", x -> x.paint(0, min, 1, min, 1), BAD);
    }

    /** Promise 7, color too small or too large: BAD, and all stays. */
    static void paintColorOutside() {
        Stays.below(0, "paint(0, 0, 1, 1, n)", (x, n) -> x.paint(0, 0, 1, 1, n));
        Stays.above(2, "paint(0, 0, 1, 1, n)", (x, n) -> x.paint(0, 0, 1, 1, n));
    }

    /** Promise 7, the least rectangles: one cell in each corner, and no cell next to it. */
    static void paintOneCell() {
        PictureClues x = started(3, 2, 3);
        Due.is("paint(0, 0, 1, 1, 1)", x.paint(0, 0, 1, 1, 1), 1);
        Due.is("paint(2, 0, 1, 1, 2)", x.paint(2, 0, 1, 1, 2), 1);
        Due.is("paint(0, 1, 1, 1, 3)", x.paint(0, 1, 1, 1, 3), 1);
        Due.is("paint(2, 1, 1, 1, 1)", x.paint(2, 1, 1, 1, 1), 1);
        Due.are("picture", Puzzles.picture(x), 1, 0, 2, 3, 0, 1);
    }

    /** Promise 7, the greatest rectangle: the whole picture, also of 64 cells, becomes full and empty again. */
    static void paintWholePicture() {
        PictureClues x = started(8, 8, 3);
        Due.is("paint(0, 0, 8, 8, 3)", x.paint(0, 0, 8, 8, 3), 64);
        Due.is("filled cells", x.count(7), 64);
        Due.is("paint(0, 0, 8, 8, 0)", x.paint(0, 0, 8, 8, 0), 64);
        Due.is("filled cells", x.count(7), 0);
        Due.is("paint(7, 0, 1, 8, 1)", x.paint(7, 0, 1, 8, 1), 8);
        Due.is("paint(0, 7, 8, 1, 2)", x.paint(0, 7, 8, 1, 2), 8);
        Due.is("picture(7, 7)", x.picture(7, 7), 2);
        Due.is("picture(6, 6)", x.picture(6, 6), 0);
        Due.is("picture(7, 0)", x.picture(7, 0), 1);
    }

    /** Promise 7, no cell becomes different: answers 0, and is a change all the same. */
    static void paintNothingDifferent() {
        Stays.but("", "paint(1, 0, 3, 2, 2)", x -> x.paint(1, 0, 3, 2, 2), 0);
        Stays.change("paint(1, 0, 3, 2, 2)", x -> x.paint(1, 0, 3, 2, 2), 0);
        PictureClues x = new PictureClues();
        Due.is("paint(0, 0, 5, 5, 0)", x.paint(0, 0, 5, 5, 0), 0);
        Due.is("count(8)", x.count(8), 1);
    }

    /** Promise 7, some cells become different: only those count, and clues, marks, hint and text stay. */
    static void paintSomeDifferent() {
        Stays.but("p", "paint(0, 0, 5, 3, 2)", x -> x.paint(0, 0, 5, 3, 2), 9);
        Stays.but("p", "paint(0, 0, 5, 3, 0)", x -> x.paint(0, 0, 5, 3, 0), 7);
        Stays.change("paint(0, 0, 5, 3, 1)", x -> x.paint(0, 0, 5, 3, 1), 14);
    }

    // ---- promise 8

    /** Promise 8, an empty picture: each line gets a clue without blocks, also one that had none or a full one. */
    static void takeCluesOfEmptyPicture() {
        PictureClues x = Stays.busy();
        x.paint(0, 0, 5, 3, 0);
        Due.is("takeClues()", x.takeClues(), 0);
        Puzzles.same("clues", Puzzles.clues(x), "none;none;none;none;none;none;none;none");
        Due.is("count(3)", x.count(3), 8);
        Due.is("count(10)", x.count(10), 8);
    }

    /** Promise 8, a full picture: one block as long as each line, of which the rows' count. */
    static void takeCluesOfFullPicture() {
        PictureClues x = started(8, 3, 3);
        x.paint(0, 0, 8, 3, 3);
        Due.is("takeClues()", x.takeClues(), 3);
        Puzzles.same("clues", Puzzles.clues(x), "8c;8c;8c;3c;3c;3c;3c;3c;3c;3c;3c");
    }

    /** Promise 8, the most blocks: 8 in each of 8 rows, next to one another, are 64. */
    static void takeCluesOfMostBlocks() {
        PictureClues x = started(8, 8, 3);
        for (int i = 0; i < 64; i++) {
            x.paint(i % 8, i / 8, 1, 1, 1 + (i % 8 + i / 8) % 3);
        }
        Due.is("takeClues()", x.takeClues(), 64);
        Due.is("blocks of all clues", x.count(6), 128);
        Due.is("line(15, 0)", x.line(15, 0), 8);
        Due.is("lines that fit", x.count(10), 16);
    }

    /** Promise 8, the least puzzle: one cell, empty and full. */
    static void takeCluesOfOneCell() {
        PictureClues x = started(1, 1, 1);
        Due.is("empty: takeClues()", x.takeClues(), 0);
        Puzzles.same("empty", Puzzles.clues(x), "none;none");
        x.paint(0, 0, 1, 1, 1);
        Due.is("full: takeClues()", x.takeClues(), 1);
        Puzzles.same("full", Puzzles.clues(x), "1a;1a");
    }

    /** Promise 8, runs at both ends of lines, of the same color with a gap of one cell, and of two colors with none. */
    static void takeCluesOfRunsAtEnds() {
        PictureClues x = started(5, 3, 2);
        Puzzles.paint(x, "11011", "11222", "10002");
        Due.is("takeClues()", x.takeClues(), 6);
        Puzzles.same("clues", Puzzles.clues(x), "2a2a;2a3b;1a1b;3a;2a;1b;1a1b;1a2b");
    }

    /** Promise 8, a change: only the clues become other ones, marks stay, although lines become wrong; undo() restores all. */
    static void takeCluesIsAChange() {
        Stays.but("c", "takeClues()", PictureClues::takeClues, 3);
        Stays.change("takeClues()", PictureClues::takeClues, 3);
        PictureClues x = Stays.busy();
        x.setMark(2, 1, 1);
        Due.is("takeClues()", x.takeClues(), 3);
        Due.is("mark(2, 1)", x.mark(2, 1), 1);
        Due.is("wrong lines", x.count(5), 2);
    }

    /** Promise 8, the same clues again: a change all the same. */
    static void takeCluesAgain() {
        PictureClues x = new PictureClues();
        x.takeClues();
        Due.is("takeClues()", x.takeClues(), 0);
        Due.is("count(8)", x.count(8), 2);
    }

    // ---- promise 9

    /** Promise 9, x too small or too large: BAD, and all stays. */
    static void pictureXOutside() {
        Stays.below(0, "picture(n, 1)", (x, n) -> x.picture(n, 1));
        Stays.above(4, "picture(n, 1)", (x, n) -> x.picture(n, 1));
    }

    /** Promise 9, y too small or too large: BAD, and all stays. */
    static void pictureYOutside() {
        Stays.below(0, "picture(1, n)", (x, n) -> x.picture(1, n));
        Stays.above(2, "picture(1, n)", (x, n) -> x.picture(1, n));
    }

    /** Promise 9, the corners: the first and the last cells of the picture, and all stays. */
    static void pictureOfCorners() {
        PictureClues x = started(8, 8, 3);
        x.paint(0, 0, 1, 1, 1);
        x.paint(7, 0, 1, 1, 2);
        x.paint(0, 7, 1, 1, 3);
        Due.is("picture(0, 0)", x.picture(0, 0), 1);
        Due.is("picture(7, 0)", x.picture(7, 0), 2);
        Due.is("picture(0, 7)", x.picture(0, 7), 3);
        Due.is("picture(7, 7)", x.picture(7, 7), 0);
        Stays.all("picture(4, 2)", y -> y.picture(4, 2), 1);
        Stays.all("picture(0, 0)", y -> y.picture(0, 0), 0);
    }
}
