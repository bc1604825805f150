/** The boundary cases of promises 13 to 17: marks. Each case tells its promise first. */
public final class MarksBoundsTest {
    /** When fillings have narrowed it, trials refute one color of one cell alone: the last of 3 colors, and of 64 cells. */
    static final String LAST = "none;none;none;1c1c;1c2c;any;1c;1c;none;none;none;2c1c;1c;1c;2c;2c";

    private static final int BAD = PictureClues.BAD, STATE = PictureClues.STATE, WRONG = PictureClues.WRONG;

    public static void main(String[] args) throws IllegalAccessException {
        Cases.run(MarksBoundsTest.class);
    }

    private static PictureClues started(int width, int height, int colors) {
        PictureClues x = new PictureClues();
        x.start(width, height, colors);
        return x;
    }

    /** Three rows want a cell each, but two columns have only two: no line is wrong at first, nor by fillings. */
    private static PictureClues pigeons() {
        return Puzzles.loaded(2, 3, 1, MarksTest.PIGEONS);
    }

    /** No line is wrong, but row 0 wants cells that the columns do not have. */
    private static PictureClues becomesWrong() {
        return Puzzles.loaded(2, 2, 1, "2;none;none;none");
    }

    // ---- promise 13

    /** Promise 13, x too small or too large: BAD, and all stays. */
    static void setMarkXOutside() {
        Stays.below(0, "setMark(n, 1, 1)", (x, n) -> x.setMark(n, 1, 1));
        Stays.above(4, "setMark(n, 1, 1)", (x, n) -> x.setMark(n, 1, 1));
    }

    /** Promise 13, y too small or too large: BAD, and all stays. */
    static void setMarkYOutside() {
        Stays.below(0, "setMark(1, n, 1)", (x, n) -> x.setMark(1, n, 1));
        Stays.above(2, "setMark(1, n, 1)", (x, n) -> x.setMark(1, n, 1));
    }

    /** Promise 13, set too small: the empty set 0, and below, is BAD, and all stays. */
    static void setMarkEmptySet() {
        Stays.below(1, "setMark(1, 1, n)", (x, n) -> x.setMark(1, 1, n));
    }

    /** Promise 13, set too large: one with a color that the puzzle does not have is BAD, with other colors and without. */
    static void setMarkWithStrangeColor() {
        Stays.above(7, "setMark(1, 1, n)", (x, n) -> x.setMark(1, 1, n));
        for (int which = 8; which <= 16; which++) {
            int set = which;
            Stays.all("setMark(1, 1, " + which + ")", x -> x.setMark(1, 1, set), BAD);
        }
        Due.is("setMark(0, 0, 4) with 1 color", started(1, 1, 1).setMark(0, 0, 4), BAD);
        Due.is("setMark(0, 0, 16) with 3 colors", started(1, 1, 3).setMark(0, 0, 16), BAD);
    }

    /** Promise 13, the least and the greatest set: 1, and all colors of 1, 2 and 3, are taken; it answers the previous one. */
    static void setMarkLeastAndGreatest() {
        for (int colors = 1; colors <= 3; colors++) {
            PictureClues x = started(1, 1, colors);
            int full = (2 << colors) - 1;
            Due.is("setMark(0, 0, 1)", x.setMark(0, 0, 1), full);
            Due.is("mark(0, 0)", x.mark(0, 0), 1);
            Due.is("setMark(0, 0, " + full + ")", x.setMark(0, 0, full), 1);
            Due.is("setMark(0, 0, " + (1 << colors) + ")", x.setMark(0, 0, 1 << colors), full);
            Due.is("mark(0, 0)", x.mark(0, 0), 1 << colors);
        }
    }

    /** Promise 13, the first and the last cell: each of the corners is set alone. */
    static void setMarkOfCorners() {
        PictureClues x = started(3, 2, 3);
        x.setMark(0, 0, 1);
        x.setMark(2, 0, 2);
        x.setMark(0, 1, 4);
        x.setMark(2, 1, 8);
        Due.are("marks", Puzzles.marks(x), 1, 15, 2, 4, 15, 8);
        PictureClues great = started(8, 8, 3);
        Due.is("setMark(7, 7, 8)", great.setMark(7, 7, 8), 15);
        Due.is("mark(7, 7)", great.mark(7, 7), 8);
        Due.is("known cells", great.count(4), 1);
    }

    /** Promise 13, a change: only the mark becomes another one, and undo() restores it. */
    static void setMarkIsAChange() {
        Stays.but("m", "setMark(0, 1, 2)", x -> x.setMark(0, 1, 2), 5);
        Stays.change("setMark(0, 1, 2)", x -> x.setMark(0, 1, 2), 5);
        Stays.but("m", "setMark(4, 2, 6)", x -> x.setMark(4, 2, 6), 7);
    }

    /** Promise 13, the same set again: a change all the same. */
    static void setMarkAgain() {
        Stays.but("", "setMark(0, 1, 5)", x -> x.setMark(0, 1, 5), 5);
        Stays.change("setMark(0, 1, 5)", x -> x.setMark(0, 1, 5), 5);
        PictureClues x = new PictureClues();
        Due.is("setMark(0, 0, 3)", x.setMark(0, 0, 3), 3);
        Due.is("count(8)", x.count(8), 1);
    }

    // ---- promise 14

    /** Promise 14, x too small or too large: BAD, and all stays. */
    static void markXOutside() {
        Stays.below(0, "mark(n, 1)", (x, n) -> x.mark(n, 1));
        Stays.above(4, "mark(n, 1)", (x, n) -> x.mark(n, 1));
    }

    /** Promise 14, y too small or too large: BAD, and all stays. */
    static void markYOutside() {
        Stays.below(0, "mark(1, n)", (x, n) -> x.mark(1, n));
        Stays.above(2, "mark(1, n)", (x, n) -> x.mark(1, n));
    }

    /** Promise 14, full marks at first: all colors of 1, 2 and 3, in the first and the last cell. */
    static void markFullAtFirst() {
        for (int colors = 1; colors <= 3; colors++) {
            PictureClues x = started(8, 8, colors);
            Due.is("mark(0, 0)", x.mark(0, 0), (2 << colors) - 1);
            Due.is("mark(7, 7)", x.mark(7, 7), (2 << colors) - 1);
        }
        Stays.all("mark(0, 1)", x -> x.mark(0, 1), 5);
        Stays.all("mark(4, 2)", x -> x.mark(4, 2), 7);
    }

    // ---- promise 15

    /** Promise 15, all marks are full already: answers 0, and is a change all the same. */
    static void clearMarksOfFull() {
        PictureClues x = new PictureClues();
        Due.is("clearMarks()", x.clearMarks(), 0);
        Due.is("count(8)", x.count(8), 1);
        Due.is("undo()", x.undo(), 0);
    }

    /** Promise 15, no mark is full: answers the number of all cells, 1 in the least and 64 in the greatest puzzle. */
    static void clearMarksOfAll() {
        PictureClues small = started(1, 1, 1);
        small.setMark(0, 0, 2);
        Due.is("clearMarks() of one cell", small.clearMarks(), 1);
        Due.is("mark(0, 0)", small.mark(0, 0), 3);
        PictureClues great = started(8, 8, 3);
        for (int i = 0; i < 64; i++) {
            great.setMark(i % 8, i / 8, 1 + i % 14);
        }
        Due.is("clearMarks() of 64 cells", great.clearMarks(), 64);
        for (int i = 0; i < 64; i++) {
            Due.is("mark of cell " + i, great.mark(i % 8, i / 8), 15);
        }
    }

    /** Promise 15, some marks: those alone count, once each, and clues, picture, hint and text stay. */
    static void clearMarksOfSome() {
        Stays.but("m", "clearMarks()", PictureClues::clearMarks, 2);
        Stays.change("clearMarks()", PictureClues::clearMarks, 2);
        Stays.but("m", "clearMarks() of known cells", Stays::known, PictureClues::clearMarks, 15);
        Stays.change("clearMarks() of a wrong line", Stays::wrong, PictureClues::clearMarks, 3);
    }

    // ---- promise 16

    /** Promise 16, level too small: below 1 is BAD, and all stays. */
    static void narrowLevelTooSmall() {
        Stays.below(1, "narrow(n)", (x, n) -> x.narrow(n));
    }

    /** Promise 16, level too large: above 3 is BAD, and all stays. */
    static void narrowLevelTooLarge() {
        Stays.above(3, "narrow(n)", (x, n) -> x.narrow(n));
    }

    /** Promise 16, a line is wrong already: WRONG by each level, and all stays. */
    static void narrowOfWrongLine() {
        for (int level = 1; level <= 3; level++) {
            int way = level;
            Stays.all("narrow(" + level + ")", Stays::wrong, x -> x.narrow(way), WRONG);
        }
    }

    /** Promise 16, a line becomes wrong: WRONG by each level, and no mark is narrowed. */
    static void narrowToWrongLine() {
        for (int level = 1; level <= 3; level++) {
            int way = level;
            Stays.all("narrow(" + level + ")", MarksBoundsTest::becomesWrong, x -> x.narrow(way), WRONG);
        }
    }

    /** Promise 16, a line becomes wrong by fillings alone: overlap answers 0, and levels 2 and 3 answer WRONG. */
    static void narrowToWrongLineByFillings() {
        Due.is("narrow(1)", holes().narrow(1), 0);
        Stays.all("narrow(2)", MarksBoundsTest::holes, x -> x.narrow(2), WRONG);
        Stays.all("narrow(3)", MarksBoundsTest::holes, x -> x.narrow(3), WRONG);
    }

    /** Column 3 wants one cell, but in both rows that cell lies between two empty ones, and is too short for their block. */
    private static PictureClues holes() {
        PictureClues x = started(7, 2, 1);
        x.addBlock(5, 1, 1);
        for (int y = 0; y < 2; y++) {
            x.addBlock(y, 2, 1);
            x.setMark(2, y, 1);
            x.setMark(4, y, 1);
        }
        return x;
    }

    /** Promise 16, a cell all of whose colors are refuted: WRONG by trials alone, and all stays. */
    static void narrowToCellWithoutColors() {
        Due.is("narrow(1)", pigeons().narrow(1), 0);
        Due.is("narrow(2)", pigeons().narrow(2), 0);
        Stays.all("narrow(3)", MarksBoundsTest::pigeons, x -> x.narrow(3), WRONG);
    }

    /** Promise 16, several apply: BAD comes before WRONG. */
    static void narrowBadBeforeWrong() {
        Stays.all("narrow(0)", Stays::wrong, x -> x.narrow(0), BAD);
        Stays.all("narrow(4)", Stays::wrong, x -> x.narrow(4), BAD);
        Stays.all("narrow(4)", MarksBoundsTest::becomesWrong, x -> x.narrow(4), BAD);
    }

    /** Promise 16, no line has a clue: answers 0 by each level, for cells that cannot be empty, too; it is a change. */
    static void narrowWithoutClues() {
        PictureClues x = started(3, 2, 3);
        x.setMark(1, 1, 6);
        for (int level = 1; level <= 3; level++) {
            Due.is("narrow(" + level + ")", x.narrow(level), 0);
            Due.is("count(8)", x.count(8), level + 1);
        }
        Due.are("marks", Puzzles.marks(x), 15, 15, 15, 15, 6, 15);
    }

    /** Promise 16, nothing is left to narrow: answers 0 by each level, and is a change all the same. */
    static void narrowOfKnown() {
        for (int level = 1; level <= 3; level++) {
            int way = level;
            Stays.but("", "narrow(" + level + ")", Stays::known, x -> x.narrow(way), 0);
            Stays.change("narrow(" + level + ")", Stays::known, x -> x.narrow(way), 0);
        }
    }

    /** Promise 16, all cells become known: each counts once, and clues, picture, hint and text stay; undo() restores the marks. */
    static void narrowOfAll() {
        for (int level = 1; level <= 3; level++) {
            int way = level;
            Stays.but("m", "narrow(" + level + ")", x -> x.narrow(way), 15);
            Stays.change("narrow(" + level + ")", x -> x.narrow(way), 15);
        }
    }

    /** Promise 16, the most cells: 64 of an 8 by 8 puzzle whose rows are full, or without blocks, by each level. */
    static void narrowOfMostCells() {
        for (int level = 1; level <= 3; level++) {
            PictureClues x = started(8, 8, 3);
            for (int line = 0; line < 8; line++) {
                x.setClue(line, true);
            }
            Due.is("without blocks: narrow(" + level + ")", x.narrow(level), 64);
            Due.is("mark(7, 7)", x.mark(7, 7), 1);
            x.start(8, 8, 3);
            for (int line = 8; line < 16; line++) {
                x.addBlock(line, 8, 3);
            }
            Due.is("full: narrow(" + level + ")", x.narrow(level), 64);
            Due.is("mark(7, 7)", x.mark(7, 7), 8);
        }
    }

    /** Promise 16, the least puzzle: one cell becomes known, or stays as it is, by each level. */
    static void narrowOfOneCell() {
        for (int level = 1; level <= 3; level++) {
            PictureClues x = started(1, 1, 3);
            Due.is("without a clue: narrow(" + level + ")", x.narrow(level), 0);
            x.addBlock(1, 1, 2);
            Due.is("full: narrow(" + level + ")", x.narrow(level), 1);
            Due.is("mark(0, 0)", x.mark(0, 0), 4);
            Due.is("again: narrow(" + level + ")", x.narrow(level), 0);
        }
    }

    /** Promise 16 (overlap), the least overlap: of half the cells none, and of one more, one or two cells. */
    static void narrowLeastOverlap() {
        int[] lengths = {2, 3, 3, 4, 4, 5, 1, 1};
        int[] cells = {4, 4, 5, 7, 8, 8, 2, 1};
        int[] due = {0, 2, 1, 1, 0, 2, 0, 1};
        for (int i = 0; i < lengths.length; i++) {
            PictureClues row = started(cells[i], 1, 1);
            row.addBlock(0, lengths[i], 1);
            Due.is(lengths[i] + " in a row of " + cells[i] + ": narrow(1)", row.narrow(1), due[i]);
            PictureClues column = started(1, cells[i], 1);
            column.addBlock(cells[i], lengths[i], 1);
            Due.is(lengths[i] + " in a column of " + cells[i] + ": narrow(1)", column.narrow(1), due[i]);
            int first = (cells[i] - due[i]) / 2;
            for (int at = 0; at < cells[i]; at++) {
                int mark = at >= first && at < first + due[i] ? 2 : 3;
                Due.is("mark of cell " + at + " in the row of " + cells[i], row.mark(at, 0), mark);
                Due.is("mark of cell " + at + " in the column of " + cells[i], column.mark(0, at), mark);
            }
        }
    }

    /** Promise 16 (overlap), cells just outside the earliest and the latest start become empty, those just inside stay. */
    static void narrowOutsideOfStarts() {
        PictureClues x = started(5, 1, 3);
        x.addBlock(0, 1, 2);
        x.setMark(0, 0, 3);
        x.setMark(4, 0, 3);
        Due.is("narrow(1)", x.narrow(1), 2);
        Due.are("marks", Puzzles.marks(x), 1, 15, 15, 15, 1);
        Due.is("narrow(2)", x.narrow(2), 3);
        Due.are("marks by fillings", Puzzles.marks(x), 1, 5, 5, 5, 1);
    }

    /** Promise 16 (overlap), cells between the last place of a block and the first one of the next become empty. */
    static void narrowBetweenBlocks() {
        PictureClues x = started(6, 1, 3);
        x.addBlock(0, 1, 1);
        x.addBlock(0, 1, 2);
        int[] marks = {3, 3, 9, 9, 5, 5};
        for (int i = 0; i < marks.length; i++) {
            x.setMark(i, 0, marks[i]);
        }
        Due.is("narrow(1)", x.narrow(1), 2);
        Due.are("marks", Puzzles.marks(x), 3, 3, 1, 1, 5, 5);
    }

    /** Promise 16 (fillings), a gap that is one cell too short, and one that is just long enough for a block. */
    static void narrowGapTooShort() {
        PictureClues x = started(8, 1, 1);
        x.addBlock(0, 2, 1);
        x.setMark(2, 0, 1);
        x.setMark(4, 0, 1);
        Due.is("narrow(1)", x.narrow(1), 0);
        Due.is("narrow(2)", x.narrow(2), 1);
        Due.are("marks", Puzzles.marks(x), 3, 3, 1, 1, 1, 3, 3, 3);
        x.setMark(7, 0, 1);
        Due.is("gaps of two cells: narrow(2)", x.narrow(2), 0);
        Due.are("gaps of two cells", Puzzles.marks(x), 3, 3, 1, 1, 1, 3, 3, 1);
    }

    /** Promise 16 (trials), some cells stay unknown: trials refute no further color, though there is one solution. */
    static void narrowByTrialsToEnd() {
        PictureClues x = Puzzles.loaded(6, 5, 1, SolutionsTest.HARD);
        Due.is("narrow(3)", x.narrow(3), 8);
        Due.is("known", x.count(4), 8);
        Due.is("narrow(3) again", x.narrow(3), 0);
        Due.is("solutions(99)", x.solutions(99), 1);
        for (int i = 0; i < 30; i++) {
            for (int color = 0; color <= 1; color++) {
                Due.is("trial of cell " + i, x.trial(i % 6, i / 6, color), Long.bitCount(x.mark(i % 6, i / 6)) == 1 ? STATE : 0);
            }
        }
    }

    /** Promise 16 (trials), a second round: a color is refuted only when one of a later cell has been removed. */
    static void narrowByTrialsInRounds() {
        PictureClues x = Puzzles.loaded(6, 6, 1, "1a;any;1a;2a;2a1a;2a;1a1a;2a;1a;2a2a;1a;none");
        Due.is("narrow(2)", x.narrow(2), 17);
        Due.is("narrow(3)", x.narrow(3), 7);
        Due.is("narrow(3) again", x.narrow(3), 0);
    }

    /** Promise 16 (trials), trials in cells whose row has no clue: the column alone leads to a wrong line. */
    static void narrowByTrialsInFreeRows() {
        PictureClues x = Puzzles.loaded(5, 5, 1, "any;1a1a;1a;2a;1a1a;any;1a;3a;1a1a;2a");
        Due.is("narrow(2)", x.narrow(2), 5);
        Due.is("narrow(3)", x.narrow(3), 2);
    }

    /** Promises 16 and 17 (trials), the last cell and the greatest color: nothing else is refuted, and this is removed. */
    static void narrowByTrialOfLastCell() {
        PictureClues x = Puzzles.loaded(8, 8, 3, LAST);
        x.narrow(2);
        int unknown = 64 - x.count(4);
        for (int i = 0; i < 64; i++) {
            int refuted = i == 63 ? 1 : 0;
            if (x.mark(i % 8, i / 8) == 9) {
                unknown--;
                Due.is("trial of color 0 of cell " + i, x.trial(i % 8, i / 8, 0), 0);
                Due.is("trial of color 3 of cell " + i, x.trial(i % 8, i / 8, 3), refuted);
            }
        }
        Due.is("unknown cells with other marks", unknown, 0);
        Due.is("narrow(3)", x.narrow(3), 1);
        Due.is("mark(7, 7)", x.mark(7, 7), 1);
    }

    // ---- promise 17

    /** Promise 17, x too small or too large: BAD, and all stays. */
    static void trialXOutside() {
        Stays.below(0, "trial(n, 1, 0)", (x, n) -> x.trial(n, 1, 0));
        Stays.above(4, "trial(n, 1, 0)", (x, n) -> x.trial(n, 1, 0));
    }

    /** Promise 17, y too small or too large: BAD, and all stays. */
    static void trialYOutside() {
        Stays.below(0, "trial(1, n, 0)", (x, n) -> x.trial(1, n, 0));
        Stays.above(2, "trial(1, n, 0)", (x, n) -> x.trial(1, n, 0));
    }

    /** Promise 17, color too small or too large: BAD, and all stays. */
    static void trialColorOutside() {
        Stays.below(0, "trial(1, 1, n)", (x, n) -> x.trial(1, 1, n));
        Stays.above(2, "trial(1, 1, n)", (x, n) -> x.trial(1, 1, n));
        Due.is("trial(0, 0, 2) with 1 color", started(1, 1, 1).trial(0, 0, 2), BAD);
        Due.is("trial(0, 0, 4) with 3 colors", started(1, 1, 3).trial(0, 0, 4), BAD);
    }

    /** Promise 17, a known cell: STATE for its only color and for all others, and all stays. */
    static void trialOfKnownCell() {
        for (int color = 0; color <= 2; color++) {
            int tried = color;
            Stays.all("trial(0, 0, " + color + ")", Stays::known, x -> x.trial(0, 0, tried), STATE);
            Stays.all("trial(4, 2, " + color + ")", Stays::known, x -> x.trial(4, 2, tried), STATE);
        }
    }

    /** Promise 17, a color that is not in the mark of two colors: STATE, and all stays. */
    static void trialOfColorNotInMark() {
        Stays.all("trial(0, 1, 1)", x -> x.trial(0, 1, 1), STATE);
        Stays.all("trial(3, 2, 2)", x -> x.trial(3, 2, 2), STATE);
    }

    /** Promise 17, several apply: BAD comes before STATE. */
    static void trialBadBeforeState() {
        Stays.all("trial(0, 0, 3)", Stays::known, x -> x.trial(0, 0, 3), BAD);
        Stays.all("trial(5, 0, 0)", Stays::known, x -> x.trial(5, 0, 0), BAD);
        Stays.all("trial(0, 3, 1)", Stays::known, x -> x.trial(0, 3, 1), BAD);
    }

    /** Promise 17, the least and the greatest color, at the first and the last cell; a trial changes nothing. */
    static void trialOfLeastAndGreatestColor() {
        Stays.all("trial(0, 0, 0)", x -> x.trial(0, 0, 0), 1);
        Stays.all("trial(0, 0, 1)", x -> x.trial(0, 0, 1), 0);
        Stays.all("trial(0, 0, 2)", x -> x.trial(0, 0, 2), 1);
        Stays.all("trial(4, 2, 0)", x -> x.trial(4, 2, 0), 0);
        Stays.all("trial(4, 2, 1)", x -> x.trial(4, 2, 1), 1);
        Stays.all("trial(4, 2, 2)", x -> x.trial(4, 2, 2), 1);
        Stays.all("trial(2, 1, 0), which narrowing alone refutes", x -> x.trial(2, 1, 0), 1);
        Stays.all("trial(2, 1, 2)", x -> x.trial(2, 1, 2), 0);
    }

    /** Promise 17, a mark of two colors, the fewest that can be tried: one of them is refuted. */
    static void trialOfTwoColors() {
        Stays.all("trial(0, 1, 0)", x -> x.trial(0, 1, 0), 0);
        Stays.all("trial(0, 1, 2)", x -> x.trial(0, 1, 2), 1);
    }

    /** Promise 17, no line has a clue: no color is refuted. */
    static void trialWithoutClues() {
        PictureClues x = started(2, 2, 3);
        for (int color = 0; color <= 3; color++) {
            Due.is("trial(1, 1, " + color + ")", x.trial(1, 1, color), 0);
        }
    }

    /** Promise 17, a line is wrong already: each color of each unknown cell is refuted, also far from the line. */
    static void trialWithWrongLine() {
        Stays.all("trial(0, 0, 1)", Stays::wrong, x -> x.trial(0, 0, 1), 1);
        Stays.all("trial(4, 2, 0)", Stays::wrong, x -> x.trial(4, 2, 0), 1);
        Stays.all("trial(2, 2, 0)", Stays::wrong, x -> x.trial(2, 2, 0), 1);
        Stays.all("trial(2, 0, 1) of the known cell", Stays::wrong, x -> x.trial(2, 0, 1), STATE);
    }

    /** Promise 17, a line becomes wrong by narrowing in any case: each color is refuted, though no line is wrong at first. */
    static void trialWhenALineBecomesWrong() {
        for (int color = 0; color <= 1; color++) {
            int tried = color;
            Stays.all("trial(1, 1, " + color + ")", MarksBoundsTest::becomesWrong, x -> x.trial(1, 1, tried), 1);
        }
    }

    /** Promise 17, all colors of a cell are refuted, or none of them. */
    static void trialOfAllOrNoColors() {
        for (int color = 0; color <= 1; color++) {
            int tried = color;
            Stays.all("pigeons: trial(1, 2, " + color + ")", MarksBoundsTest::pigeons, x -> x.trial(1, 2, tried), 1);
            PictureClues x = Puzzles.loaded(3, 3, 1, "1;1;1;1;1;1");
            Due.is("permutations: trial(2, 2, " + color + ")", x.trial(2, 2, color), 0);
        }
    }
}
