/** Promises 18 to 21: solutions. */
public final class SolutionsTest {
    private static final int NONE = PictureClues.NONE, BAD = PictureClues.BAD;

    /** Has one solution, but trials leave cells that are not known. */
    static final String HARD = "1;1;1 1;none;3;1;1 1;any;1 1;1;1";
    private static final String PERMUTATIONS = "1;1;1;1;1;1";

    public static void main(String[] args) {
        solutions();
        solutionsOfColors();
        solve();
        solveNone();
        difficulty();
        mistakes();
        Due.end();
    }

    /** Promise 18. */
    private static void solutions() {
        PictureClues x = new PictureClues();
        for (int strange : new int[] {0, 100, -1, Integer.MIN_VALUE, Integer.MAX_VALUE}) {
            Due.is("solutions(" + strange + ")", x.solutions(strange), BAD);
        }
        Due.is("without clues: solutions(99)", x.solutions(99), 99);
        Due.is("without clues: solutions(1)", x.solutions(1), 1);
        x = Puzzles.loaded(3, 3, 1, PERMUTATIONS);
        long before = x.digest();
        Due.is("solutions(99)", x.solutions(99), 6);
        Due.is("solutions(7)", x.solutions(7), 6);
        Due.is("solutions(6)", x.solutions(6), 6);
        Due.is("solutions(5)", x.solutions(5), 5);
        Due.is("solutions(1)", x.solutions(1), 1);
        Due.is("digest() after counting", x.digest(), before);
        x.setMark(0, 0, 2);
        Due.is("with a mark: solutions(99)", x.solutions(99), 2);
        x.setMark(1, 1, 2);
        Due.is("with two marks: solutions(99)", x.solutions(99), 1);
        x.setMark(2, 2, 1);
        Due.is("against the marks: solutions(99)", x.solutions(99), 0);
        x = Puzzles.loaded(2, 3, 1, MarksTest.PIGEONS);
        Due.is("pigeons: solutions(99)", x.solutions(99), 0);
        x = Puzzles.loaded(4, 4, 1, "1 1;1 1;1 1;1 1;2;2;2;2");
        Due.is("two ways: solutions(99)", x.solutions(99), 2);
        x = Puzzles.loaded(8, 8, 1, "1;1;1;1;1;1;1;1;1;1;1;1;1;1;1;1");
        Due.is("8 of 64: solutions(99)", x.solutions(99), 99);
        x = Puzzles.loaded(8, 8, 1, "1;1;1;1;1;1;1;1;2;1;1;1;1;1;1;1");
        Due.is("8 or 9 of 64: solutions(99)", x.solutions(99), 0);
    }

    private static void solutionsOfColors() {
        PictureClues x = new PictureClues();
        x.start(1, 1, 3);
        Due.is("one cell: solutions(99)", x.solutions(99), 4);
        x.setMark(0, 0, 11);
        Due.is("one cell with a mark: solutions(99)", x.solutions(99), 3);
        x.addBlock(0, 1, 1);
        Due.is("one cell with a clue: solutions(99)", x.solutions(99), 1);
        x.addBlock(1, 1, 3);
        Due.is("one cell with two clues: solutions(99)", x.solutions(99), 0);
        x.start(2, 2, 2);
        Due.is("3 to the 4: solutions(99)", x.solutions(99), 81);
        x.addBlock(0, 1, 1);
        x.addBlock(0, 1, 2);
        Due.is("3 to the 2: solutions(99)", x.solutions(99), 9);
        x.setClue(3, true);
        Due.is("against the column: solutions(99)", x.solutions(99), 0);
    }

    /** Promise 19. */
    private static void solve() {
        PictureClues x = Puzzles.loaded(3, 3, 1, PERMUTATIONS);
        x.paint(0, 0, 3, 3, 1);
        Due.is("solve()", x.solve(), 3);
        Due.are("the first solution", Puzzles.picture(x), 0, 0, 1, 0, 1, 0, 1, 0, 0);
        Due.is("states", x.count(8), 3);
        Due.are("marks stay", Puzzles.marks(x), 3, 3, 3, 3, 3, 3, 3, 3, 3);
        Due.is("lines that fit", x.count(10), 6);
        x.setMark(1, 0, 2);
        Due.is("solve() with a mark", x.solve(), 3);
        Due.are("the first solution with a mark", Puzzles.picture(x), 0, 1, 0, 0, 0, 1, 1, 0, 0);
        x.undo();
        Due.are("the picture before", Puzzles.picture(x), 0, 0, 1, 0, 1, 0, 1, 0, 0);
        x.start(3, 2, 3);
        x.paint(1, 1, 1, 1, 2);
        Due.is("solve() without clues", x.solve(), 0);
        Due.are("it is empty", Puzzles.picture(x), 0, 0, 0, 0, 0, 0);
        x.addBlock(1, 1, 3);
        x.addBlock(1, 1, 2);
        x.setMark(0, 0, 12);
        Due.is("solve()", x.solve(), 3);
        Due.are("the least colors", Puzzles.picture(x), 2, 0, 0, 0, 3, 2);
    }

    private static void solveNone() {
        PictureClues x = Puzzles.loaded(2, 3, 1, MarksTest.PIGEONS);
        x.paint(0, 1, 2, 1, 1);
        long before = x.digest();
        Due.is("pigeons: solve()", x.solve(), NONE);
        Due.is("digest() after NONE", x.digest(), before);
        x.start(1, 1, 1);
        x.setClue(0, true);
        x.setMark(0, 0, 2);
        Due.is("wrong: solve()", x.solve(), NONE);
        Due.is("states", x.count(8), 2);
    }

    private static void difficult(int width, int height, int colors, String text, int due) {
        PictureClues x = Puzzles.loaded(width, height, colors, text);
        long before = x.digest();
        Due.is("difficulty() of " + text, x.difficulty(), due);
        Due.is("digest() after difficulty()", x.digest(), before);
        x.setMark(0, 0, 1);
        Due.is("difficulty() of " + text + " with a mark", x.difficulty(), due);
        x.setMark(0, 0, 2);
        Due.is("difficulty() of " + text + " with another", x.difficulty(), due);
    }

    /** Promise 20. */
    private static void difficulty() {
        difficult(1, 1, 3, "1c;1b", 0);
        difficult(2, 3, 1, MarksTest.PIGEONS, 0);
        difficult(2, 2, 1, "2;none;none;none", 0);
        difficult(5, 5, 1, MarksTest.CROSS, 1);
        difficult(1, 1, 1, "none;any", 1);
        difficult(3, 3, 2, "any;1b1a;1b1a;2b;2a;1b", 2);
        difficult(2, 3, 2, "1a1b;1a;any;1a1b;1b1a", 2);
        difficult(4, 2, 1, MarksTest.TRIALS, 3);
        difficult(2, 4, 1, "1;1;1;1;2;1 1", 3);
        difficult(6, 5, 1, HARD, 4);
        difficult(3, 3, 1, PERMUTATIONS, 5);
        difficult(1, 1, 1, "any;any", 5);
        difficult(4, 4, 1, "1 1;1 1;1 1;1 1;2;2;2;2", 5);
    }

    /** Promise 21. */
    private static void mistakes() {
        PictureClues x = new PictureClues();
        x.start(3, 2, 2);
        Due.is("full marks: mistakes()", x.mistakes(), 0);
        x.setMark(0, 0, 6);
        Due.is("one: mistakes()", x.mistakes(), 1);
        x.setMark(2, 1, 4);
        Due.is("two: mistakes()", x.mistakes(), 2);
        x.paint(0, 0, 3, 2, 2);
        Due.is("none: mistakes()", x.mistakes(), 0);
        x.setMark(1, 1, 3);
        x.paint(2, 1, 1, 1, 1);
        Due.is("two others: mistakes()", x.mistakes(), 2);
        long before = x.digest();
        x.mistakes();
        Due.is("digest() after mistakes()", x.digest(), before);
    }
}
