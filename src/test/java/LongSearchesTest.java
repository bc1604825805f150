/**
 * Promises 18 to 20 for puzzles whose searches are among the longest: no answer may be cut off. The answers
 * that are due were counted by GreatPuzzlesTest, which takes minutes for each of these puzzles.
 */
public final class LongSearchesTest {
    private static final int NONE = PictureClues.NONE;
    private static final int MOST_MILLISECONDS = 60_000;

    /** Without a solution, which is seen only behind very many beginnings of pictures. */
    private static final String[] VAIN = {
        "1/any;1;any;any;any;any;2;2 2;1 2;1 2;1 2;1 2;1 2;1 2;2 1;1 2/0 0 3,0 1 1,3 1 1,4 1 1",
        "2/any;any;any;any;11b;11b;2b1b;11b;21;21b1;1b11b1;1b1b;11b1;2b11b1;1b1b1;1b2b/7 0 5,1 1 7,2 5 7,3 7 5",
        "2/any;any;any;any;any;1b2b;1b21b;11b1;1b1b1;1b2b1;1b11b2;2b1b;1b1b;1b1b1;111b;12b1/"
                + "0 1 7,2 1 3,5 1 5,6 1 5,0 2 5,5 2 5,4 3 7,0 4 7,6 4 7,7 4 7",
    };

    /** As ../shared/tests/LateSolutionTest.java has it, but for the mark of cell (0, 0), which comes between. */
    private static final String LATE = "3/any;any;any;any;any;any;11;11;1;1b1c1b1;11b1;1b1c1b1;11b1;1b1c1b1;11b1;1b1c1b1/0 0 ";
    private static final String LATE_MARKS = ",1 0 13,3 0 13,5 0 13,7 0 13,"
            + "0 1 1,1 1 13,3 1 13,5 1 13,7 1 13,0 2 1,1 2 13,3 2 13,5 2 13,7 2 13,"
            + "0 3 1,1 3 13,3 3 13,5 3 13,7 3 13,0 4 1,1 4 13,3 4 13,5 4 13,7 4 13,"
            + "0 5 1,1 5 13,3 5 13,5 5 13,7 5 13,0 6 3,1 6 3,2 6 1,3 6 3,4 6 1,5 6 3,6 6 1,7 6 3,"
            + "0 7 3,1 7 3,2 7 1,3 7 3,4 7 1,5 7 3,6 7 1,7 7 3";

    private static final String[] LATE_PICTURE = {
        "10000000", "00000000", "00000000", "02121212", "03232323", "02121212", "00000101", "01010000",
    };

    /** Their first solutions come later still, behind some six million cells that were given colors in vain. */
    private static final String LATER_OF_TWO_COLORS
            = "2/any;any;any;any;any;11b;111b1;11b;11;11b11b;11b2;1b1b1b;11b11b;11b11b;11b11b;2b11b/"
            + "7 0 5,0 1 3,1 2 3,0 3 3,6 6 3,0 7 3,1 7 5,3 7 5,4 7 5";
    private static final String LATER_OF_ONE_COLOR
            = "1/any;any;any;any;any;1;2;1 1 2;1 2;1 2;2 1;2 2;2 1;1 2;1 2;2 1/0 1 1";

    /** How many searches there are. */
    private static final int SEARCHES = 8;
    private static PictureClues x;
    private static boolean ended = false;

    public static void main(String[] args) throws InterruptedException {
        Thread thread = new Thread(LongSearchesTest::searches);
        thread.setDaemon(true);
        thread.start();
        thread.join(MOST_MILLISECONDS);
        if (!ended) {
            System.out.println("the searches did not end within " + MOST_MILLISECONDS + " milliseconds, or failed");
            System.exit(1);
        }
        Due.end();
    }

    private static void searches() {
        // Each second search meets what another one has left behind in the object, which answers 512 calls.
        for (int which = 0; which < SEARCHES; which++) {
            x = new PictureClues();
            search(which);
            search((which + 1) % SEARCHES);
        }
        ended = true;
    }

    private static void search(int which) {
        switch (which) {
            case 0: case 1: case 2:
                none(VAIN[which]);
                x.clearMarks();
                Due.is("solutions(1) with full marks of " + VAIN[which], x.solutions(1), x.difficulty() == 0 ? 0 : 1);
                break;
            case 3:
                none(LATE + 1 + LATE_MARKS);
                break;
            case 4: case 5:
                late(LATE + (which - 2) + LATE_MARKS, 26, LATE_PICTURE);
                break;
            case 6:
                late(LATER_OF_TWO_COLORS, 29,
                        "01020000", "02000002", "00020012", "01101121", "12222212", "00001020", "10102100", "00100200");
                break;
            default:
                late(LATER_OF_ONE_COLOR, 25,
                        "10010000", "01010000", "00000000", "11111101", "11111011", "00000100", "00000110", "00101011");
        }
    }

    private static void none(String puzzle) {
        Puzzles.start(x, puzzle);
        long before = x.digest();
        Due.is("solutions(99) of " + puzzle, x.solutions(99), 0);
        Due.is("solve() of " + puzzle, x.solve(), NONE);
        Due.is("digest() after NONE of " + puzzle, x.digest(), before);
    }

    private static void late(String puzzle, int filled, String... rows) {
        Puzzles.start(x, puzzle);
        Due.is("solutions(99) of " + puzzle, x.solutions(99), 99);
        Due.is("solve() of " + puzzle, x.solve(), filled);
        Due.is("mistakes() of " + puzzle, x.mistakes(), 0);
        Due.is("lines that fit in " + puzzle, x.count(10), x.count(3));
        StringBuilder picture = new StringBuilder();
        for (long color : Puzzles.picture(x)) {
            picture.append(color);
        }
        Puzzles.same("the picture of " + puzzle, picture.toString(), String.join("", rows));
    }
}
