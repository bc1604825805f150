import java.util.function.Supplier;

/** The boundary cases of promises 18 to 21: solutions. Each case tells its promise first. */
public final class SolutionsBoundsTest {
    private static final int NONE = PictureClues.NONE, BAD = PictureClues.BAD;

    public static void main(String[] args) throws IllegalAccessException {
        Cases.run(SolutionsBoundsTest.class);
    }

    private static PictureClues started(int width, int height, int colors) {
        PictureClues x = new PictureClues();
        x.start(width, height, colors);
        return x;
    }

    /** No line is wrong, but there is no solution: three rows want a cell each in two columns that have one each. */
    private static PictureClues pigeons() {
        return Puzzles.loaded(2, 3, 1, MarksTest.PIGEONS);
    }

    // ---- promise 18

    /** Promise 18, most too small: below 1 is BAD, and all stays. */
    static void solutionsTooFew() {
        Stays.below(1, "solutions(n)", (x, n) -> x.solutions(n));
    }

    /** Promise 18, most too large: above 99 is BAD, and all stays. */
    static void solutionsTooMany() {
        Stays.above(99, "solutions(n)", (x, n) -> x.solutions(n));
    }

    /** Promise 18, no solution: 0, for a wrong line and without one, with the least and the greatest most. */
    static void solutionsNone() {
        for (int most : new int[] {1, 2, 99}) {
            Stays.all("pigeons: solutions(" + most + ")", SolutionsBoundsTest::pigeons, x -> x.solutions(most), 0);
            Stays.all("wrong: solutions(" + most + ")", Stays::wrong, x -> x.solutions(most), 0);
        }
    }

    /** Promise 18, one solution: 1, with the least and the greatest most. */
    static void solutionsOne() {
        for (int most : new int[] {1, 2, 99}) {
            Stays.all("solutions(" + most + ")", x -> x.solutions(most), 1);
            Stays.all("known: solutions(" + most + ")", Stays::known, x -> x.solutions(most), 1);
        }
    }

    /** Promise 18, as many solutions as most, one fewer and one more: 98, 99 and 100 of them. */
    static void solutionsAtMost() {
        // A block of 2 in 8 cells has 7 fillings, and one of 7 has two.
        PictureClues ninetyEight = started(8, 3, 1);
        ninetyEight.addBlock(0, 2, 1);
        ninetyEight.addBlock(1, 2, 1);
        ninetyEight.addBlock(2, 7, 1);
        around("98", ninetyEight, 98);

        // Two cells that do not touch, among 0 to 4 and 6, have 11 fillings, and blocks of 5 in 7 cells 3 each.
        PictureClues ninetyNine = started(8, 3, 1);
        ninetyNine.addBlock(0, 1, 1);
        ninetyNine.addBlock(0, 1, 1);
        ninetyNine.setMark(5, 0, 1);
        ninetyNine.setMark(7, 0, 1);
        for (int y = 1; y < 3; y++) {
            ninetyNine.addBlock(y, 5, 1);
            ninetyNine.setMark(7, y, 1);
        }
        Due.is("fillings of row 0", ninetyNine.line(0, 2), 11);
        around("99", ninetyNine, 99);

        // Two cells that do not touch, among six, have 10 fillings in each row.
        PictureClues hundred = started(6, 2, 1);
        for (int y = 0; y < 2; y++) {
            hundred.addBlock(y, 1, 1);
            hundred.addBlock(y, 1, 1);
        }
        around("100", hundred, 100);
    }

    private static void around(String name, PictureClues x, int solutions) {
        for (int most : new int[] {1, 2, 50, 97, 98, 99}) {
            Due.is(name + ": solutions(" + most + ")", x.solutions(most), Math.min(most, solutions));
        }
        Due.is(name + ": solutions(100)", x.solutions(100), BAD);
    }

    /** Promise 18, few solutions with most one fewer, equal and one more: 6 permutations. */
    static void solutionsAroundSix() {
        PictureClues x = Puzzles.loaded(3, 3, 1, "1;1;1;1;1;1");
        Due.is("solutions(5)", x.solutions(5), 5);
        Due.is("solutions(6)", x.solutions(6), 6);
        Due.is("solutions(7)", x.solutions(7), 6);
    }

    /** Promise 18, no line has a clue: each picture in the marks is a solution; 4 of one cell, most of 64 cells. */
    static void solutionsWithoutClues() {
        PictureClues x = started(1, 1, 3);
        Due.is("one cell: solutions(99)", x.solutions(99), 4);
        Due.is("one cell: solutions(3)", x.solutions(3), 3);
        x.setMark(0, 0, 8);
        Due.is("one color: solutions(99)", x.solutions(99), 1);
        x = started(8, 8, 3);
        Due.is("64 cells: solutions(1)", x.solutions(1), 1);
        Due.is("64 cells: solutions(99)", x.solutions(99), 99);
        x = started(3, 2, 1);
        Due.is("2 to the 6: solutions(99)", x.solutions(99), 64);
        Due.is("2 to the 6: solutions(63)", x.solutions(63), 63);
    }

    /** Promise 18, marks count: a cell of one color leaves fewer solutions, one against all of them none. */
    static void solutionsInMarks() {
        PictureClues x = Puzzles.loaded(2, 2, 1, "1;1;1;1");
        Due.is("full marks: solutions(99)", x.solutions(99), 2);
        x.setMark(1, 1, 1);
        Due.is("one known: solutions(99)", x.solutions(99), 1);
        x.setMark(0, 0, 2);
        Due.is("two known: solutions(99)", x.solutions(99), 0);
    }

    /** Promise 18, none before: a search in vain leaves nothing behind for a puzzle of the same object that has solutions. */
    static void solutionsAfterNone() {
        PictureClues x = pigeons();
        Due.is("solutions(99)", x.solutions(99), 0);
        x.setClue(0, false);
        Due.is("one row is free: solutions(99)", x.solutions(99), 2);
        x.setClue(0, true);
        Due.is("it is empty: solutions(99)", x.solutions(99), 2);
        x.addBlock(0, 2, 1);
        Due.is("it is full: solutions(99)", x.solutions(99), 0);
        x.start(2, 3, 1);
        Due.is("behind start(): solutions(99)", x.solutions(99), 64);
    }

    // ---- promise 19

    /** Promise 19, no solution: NONE is no change; the picture stays, also with a full history, and for a wrong line. */
    static void solveNone() {
        Stays.all("wrong: solve()", Stays::wrong, PictureClues::solve, NONE);
        Stays.all("pigeons: solve()", SolutionsBoundsTest::pigeons, PictureClues::solve, NONE);
        PictureClues x = pigeons();
        x.paint(0, 0, 2, 3, 1);
        Due.is("solve()", x.solve(), NONE);
        Due.is("count(8)", x.count(8), 2);
        Due.is("count(7)", x.count(7), 6);
    }

    /** Promise 19, an empty solution: 0 is no NONE, and it is a change; the picture becomes empty. */
    static void solveEmpty() {
        PictureClues x = started(3, 2, 3);
        x.paint(0, 0, 3, 2, 3);
        Due.is("without clues: solve()", x.solve(), 0);
        Due.is("count(7)", x.count(7), 0);
        Due.is("count(8)", x.count(8), 2);
        x = Puzzles.loaded(1, 1, 1, "none;none");
        Due.is("without blocks: solve()", x.solve(), 0);
        Due.is("count(8)", x.count(8), 2);
    }

    /** Promise 19, a full solution: all 64 cells, and the one cell of the least puzzle. */
    static void solveFull() {
        PictureClues x = started(8, 8, 3);
        for (int line = 8; line < 16; line++) {
            x.addBlock(line, 8, 3);
        }
        Due.is("solve()", x.solve(), 64);
        Due.is("picture(7, 7)", x.picture(7, 7), 3);
        Due.is("count(10)", x.count(10), 8);
        x = Puzzles.loaded(1, 1, 2, "1b;any");
        Due.is("one cell: solve()", x.solve(), 1);
        Due.is("picture(0, 0)", x.picture(0, 0), 2);
    }

    /** Promise 19, several solutions: the least sequence of colors in row-major order, in which early cells count most. */
    static void solveFirst() {
        PictureClues x = Puzzles.loaded(3, 2, 1, "1;1;any;any;any");
        Due.is("solve()", x.solve(), 2);
        Due.are("as late in each row as can be", Puzzles.picture(x), 0, 0, 1, 0, 0, 1);
        x = Puzzles.loaded(2, 2, 1, "any;any;1;1");
        x.solve();
        Due.are("columns as far below as can be", Puzzles.picture(x), 0, 0, 1, 1);
        x = Puzzles.loaded(2, 2, 3, "1c1a;any;any;any");
        x.setMark(1, 1, 10);
        x.setMark(0, 1, 12);
        Due.is("solve() in marks", x.solve(), 4);
        Due.are("the least colors of marks", Puzzles.picture(x), 3, 1, 2, 1);
    }

    /** Promise 19, marks without color 0 and without clues: the least color of each mark. */
    static void solveLeastOfMarks() {
        PictureClues x = started(3, 1, 3);
        x.setMark(0, 0, 8);
        x.setMark(1, 0, 14);
        x.setMark(2, 0, 12);
        Due.is("solve()", x.solve(), 3);
        Due.are("picture", Puzzles.picture(x), 3, 1, 2);
    }

    /** Promise 19, a change: only the picture becomes another one; marks stay, and undo() restores it. */
    static void solveIsAChange() {
        Stays.but("p", "solve()", PictureClues::solve, 7);
        Stays.change("solve()", PictureClues::solve, 7);
        PictureClues x = Stays.busy();
        x.solve();
        Due.are("picture", Puzzles.picture(x), 1, 1, 0, 1, 1, 0, 2, 2, 2, 0, 0, 0, 0, 0, 0);
        Due.is("lines that fit", x.count(10), 5);
    }

    private static PictureClues solved() {
        PictureClues x = Stays.busy();
        x.solve();
        return x;
    }

    /** Promise 19, the picture is the solution already: answers as before, and is a change all the same. */
    static void solveAgain() {
        Stays.but("", "solve()", SolutionsBoundsTest::solved, PictureClues::solve, 7);
        Stays.change("solve()", SolutionsBoundsTest::solved, PictureClues::solve, 7);
    }

    /** Promise 19, a full picture before: nothing of an earlier solution is in that of a smaller puzzle, nor in a later one. */
    static void solveAnother() {
        PictureClues x = started(8, 8, 3);
        for (int line = 0; line < 8; line++) {
            x.addBlock(line, 8, 3);
        }
        Due.is("solve()", x.solve(), 64);
        x.start(2, 2, 1);
        x.addBlock(0, 1, 1);
        Due.is("a smaller one: solve()", x.solve(), 1);
        Due.are("a smaller one", Puzzles.picture(x), 0, 1, 0, 0);
        x.setMark(0, 0, 2);
        Due.is("another mark: solve()", x.solve(), 1);
        Due.are("another mark", Puzzles.picture(x), 1, 0, 0, 0);
        x.start(8, 8, 3);
        Due.is("without clues: solve()", x.solve(), 0);
        Due.is("without clues: count(7)", x.count(7), 0);
    }

    // ---- promise 20

    private static void difficult(String what, Supplier<PictureClues> make, int due) {
        Stays.all("difficulty() " + what, make, PictureClues::difficulty, due);
    }

    /** Promise 20, no solution: 0, when a line becomes wrong by overlap, by fillings, by trials, and by the search alone. */
    static void difficultyNone() {
        difficult("by overlap", () -> Puzzles.loaded(2, 2, 1, "2;none;none;none"), 0);
        difficult("by overlap in one cell", () -> Puzzles.loaded(1, 1, 2, "1a;1b"), 0);
        difficult("by trials", SolutionsBoundsTest::pigeons, 0);
        difficult("in 8 by 8 cells", () -> Puzzles.loaded(8, 8, 1, "1;1;1;1;1;1;1;1;2;1;1;1;1;1;1;1"), 0);
    }

    /** Promise 20, several solutions: 5, for two of them, for very many, and without clues. */
    static void difficultySeveral() {
        difficult("of two solutions", () -> Puzzles.loaded(2, 2, 1, "1;1;1;1"), 5);
        difficult("of one cell that is free", () -> Puzzles.loaded(1, 1, 1, "any;any"), 5);
        difficult("without clues", PictureClues::new, 5);
        difficult("of 8 by 8 cells without clues", () -> started(8, 8, 3), 5);
        difficult("of many", () -> Puzzles.loaded(8, 8, 1, "1;1;1;1;1;1;1;1;1;1;1;1;1;1;1;1"), 5);
        difficult("of a single cell that no line has", () -> Puzzles.loaded(2, 2, 1, "none;any;none;any"), 5);
    }

    /** Promise 20, the least level: 1 by overlap, although fillings and trials would do it, too. */
    static void difficultyOne() {
        difficult("of the cross", () -> Puzzles.loaded(5, 5, 1, MarksTest.CROSS), 1);
        difficult("of one cell", () -> Puzzles.loaded(1, 1, 1, "none;any"), 1);
        difficult("of a full picture", () -> Puzzles.loaded(2, 2, 3, "2c;2c;any;any"), 1);
        difficult("of the busy puzzle", Stays::busy, 1);
    }

    /** Promise 20, the levels between: 2 by fillings, 3 by trials; and 4 when trials leave a cell unknown. */
    static void difficultyTwoToFour() {
        difficult("by fillings", () -> Puzzles.loaded(3, 3, 2, "any;1b1a;1b1a;2b;2a;1b"), 2);
        difficult("by trials", () -> Puzzles.loaded(4, 2, 1, MarksTest.TRIALS), 3);
        difficult("by none of them", () -> Puzzles.loaded(6, 5, 1, SolutionsTest.HARD), 4);
    }

    /** Promise 20, as if all marks were full: known cells do not make it easier, and those of a wrong line not wrong. */
    static void difficultyWithMarks() {
        difficult("of a wrong line", Stays::wrong, 1);
        difficult("when all is known", Stays::known, 1);
        difficult("by trials when all is known", () -> {
            PictureClues x = Puzzles.loaded(4, 2, 1, MarksTest.TRIALS);
            Due.is("narrow(3)", x.narrow(3), 8);
            return x;
        }, 3);
        difficult("of two solutions in marks that have one", () -> {
            PictureClues x = Puzzles.loaded(2, 2, 1, "1;1;1;1");
            x.setMark(0, 0, 1);
            return x;
        }, 5);
        difficult("of two solutions in marks that have none", () -> {
            PictureClues x = Puzzles.loaded(2, 2, 1, "1;1;1;1");
            x.setMark(0, 0, 1);
            x.setMark(1, 0, 1);
            return x;
        }, 5);
    }

    /** Promise 20, a full puzzle before: nothing of its marks counts for a smaller puzzle, or for a greater one again. */
    static void difficultyOfAnother() {
        PictureClues x = started(8, 8, 3);
        for (int line = 0; line < 8; line++) {
            x.addBlock(line, 7, 3);
        }
        Due.is("many solutions: difficulty()", x.difficulty(), 5);
        x.start(2, 1, 1);
        x.addBlock(0, 1, 1);
        Due.is("two solutions: difficulty()", x.difficulty(), 5);
        x.addBlock(1, 1, 1);
        x.setClue(2, true);
        Due.is("one solution: difficulty()", x.difficulty(), 1);
        x.start(8, 8, 1);
        for (int line = 0; line < 8; line++) {
            x.addBlock(line, 8, 1);
        }
        Due.is("full rows: difficulty()", x.difficulty(), 1);
        x.setClue(15, true);
        Due.is("and an empty column: difficulty()", x.difficulty(), 0);
    }

    // ---- promise 21

    /** Promise 21, no mistake: 0 for full marks, whatever the picture and the clues are. */
    static void mistakesNone() {
        PictureClues x = started(8, 8, 3);
        Due.is("empty: mistakes()", x.mistakes(), 0);
        x.paint(0, 0, 8, 8, 3);
        x.setClue(0, true);
        Due.is("full, against a clue: mistakes()", x.mistakes(), 0);
    }

    /** Promise 21, mistakes alone: all 64 cells, and the one cell of the least puzzle. */
    static void mistakesAll() {
        PictureClues x = started(8, 8, 1);
        for (int line = 0; line < 8; line++) {
            x.addBlock(line, 8, 1);
        }
        x.narrow(1);
        Due.is("mistakes()", x.mistakes(), 64);
        x.paint(7, 7, 1, 1, 1);
        Due.is("the last one is right: mistakes()", x.mistakes(), 63);
        x = started(1, 1, 3);
        x.setMark(0, 0, 14);
        Due.is("one cell: mistakes()", x.mistakes(), 1);
        x.paint(0, 0, 1, 1, 3);
        Due.is("the greatest color: mistakes()", x.mistakes(), 0);
        x.setMark(0, 0, 7);
        Due.is("but the greatest color: mistakes()", x.mistakes(), 1);
    }

    /** Promise 21, some mistakes: they change nothing. */
    static void mistakesOfSome() {
        Stays.all("mistakes()", PictureClues::mistakes, 0);
        Stays.all("known: mistakes()", Stays::known, PictureClues::mistakes, 6);
        Stays.all("wrong: mistakes()", Stays::wrong, PictureClues::mistakes, 1);
    }
}
