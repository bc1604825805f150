import java.math.BigInteger;
import java.util.function.ToLongFunction;

/** The boundary cases of promises 25 to 27: history, numbers, and the number of calls. Each case tells its promise first. */
public final class HistoryBoundsTest {
    private static final int NONE = PictureClues.NONE, BAD = PictureClues.BAD, STATE = PictureClues.STATE;

    public static void main(String[] args) throws IllegalAccessException {
        Cases.run(HistoryBoundsTest.class);
    }

    private static PictureClues started(int width, int height, int colors) {
        PictureClues x = new PictureClues();
        x.start(width, height, colors);
        return x;
    }

    private static void counts(String what, PictureClues x, long... due) {
        for (int i = 0; i < due.length; i++) {
            Due.is(what + ": count(" + i + ")", x.count(i), due[i]);
        }
    }

    // ---- promise 25

    /** Promise 25, an empty history: STATE, and all stays, on a new object, behind start() and behind the last undo(). */
    static void undoOfNothing() {
        Stays.all("undo()", PictureClues::new, PictureClues::undo, STATE);
        Stays.all("undo() behind start()", () -> {
            PictureClues x = Stays.busy();
            x.start(5, 3, 2);
            return x;
        }, PictureClues::undo, STATE);
        Stays.all("undo() behind the last one", () -> {
            PictureClues x = Stays.busy();
            for (int left = 7; left >= 0; left--) {
                Due.is("undo()", x.undo(), left);
            }
            return x;
        }, PictureClues::undo, STATE);
    }

    /** Promise 25, one state: undo() answers 0, and the history is empty. */
    static void undoOfOne() {
        PictureClues x = new PictureClues();
        x.paint(0, 0, 1, 1, 1);
        Due.is("undo()", x.undo(), 0);
        Due.is("count(8)", x.count(8), 0);
        Due.is("picture(0, 0)", x.picture(0, 0), 0);
        Due.is("undo()", x.undo(), STATE);
    }

    /** Promise 25, exactly 8 changes: all of them are undone, down to the first state. */
    static void undoOfEight() {
        PictureClues x = started(8, 2, 1);
        for (int i = 0; i < 8; i++) {
            x.paint(i, 0, 1, 1, 1);
            Due.is("count(8)", x.count(8), i + 1);
        }
        for (int left = 7; left >= 0; left--) {
            Due.is("undo()", x.undo(), left);
            Due.is("count(7)", x.count(7), left);
        }
        Due.is("undo()", x.undo(), STATE);
    }

    /** Promise 25, a ninth change: the oldest state is dropped, and 8 remain; the first change cannot be undone. */
    static void undoOfNine() {
        PictureClues x = started(8, 2, 1);
        for (int i = 0; i < 9; i++) {
            x.paint(i % 8, i / 8, 1, 1, 1);
        }
        Due.is("count(8)", x.count(8), 8);
        for (int left = 7; left >= 0; left--) {
            Due.is("undo()", x.undo(), left);
            Due.is("count(7)", x.count(7), left + 1);
        }
        Due.is("undo()", x.undo(), STATE);
        Due.is("picture(0, 0)", x.picture(0, 0), 1);
    }

    /** Promise 25, the history goes round many times: after 8 more, or any number of changes, the latest 8 are undone. */
    static void undoWrapsAround() {
        for (int changes : new int[] {15, 16, 17, 24, 64, 100, 257}) {
            PictureClues x = started(8, 8, 3);
            for (int i = 1; i <= changes; i++) {
                x.setMark(i % 8, i / 8 % 8, 1 + i % 14);
            }
            PictureClues other = started(8, 8, 3);
            for (int i = 1; i <= changes - 8; i++) {
                other.setMark(i % 8, i / 8 % 8, 1 + i % 14);
            }
            for (int left = 7; left >= 0; left--) {
                Due.is("undo() of " + changes, x.undo(), left);
            }
            Due.is("undo() of " + changes, x.undo(), STATE);
            for (int i = 0; i < 64; i++) {
                Due.is("mark of cell " + i + " of " + changes, x.mark(i % 8, i / 8), other.mark(i % 8, i / 8));
            }
        }
    }

    /** Promise 25, changes and undo() in turn: an undo() removes the latest state, so that a change can follow. */
    static void undoInTurn() {
        PictureClues x = started(4, 4, 3);
        for (int i = 0; i < 30; i++) {
            x.setMark(0, 0, 1 + i % 14);
            x.setMark(1, 1, 1 + i % 13);
            Due.is("undo()", x.undo(), Math.min(i + 1, 7));
            Due.is("mark(0, 0)", x.mark(0, 0), 1 + i % 14);
            Due.is("mark(1, 1)", x.mark(1, 1), 15);
        }
    }

    /** Promise 25, what undo() restores: clues, marks and picture; size, hint and text stay, and it is no change. */
    static void undoRestores() {
        Stays.but("cn", "undo() of addBlock()", PictureClues::undo, 7);
        Stays.but("mn", "undo() of setMark()", Stays::wrong, PictureClues::undo, 7);
        Stays.but("pn", "undo() of paint()", () -> {
            PictureClues x = Stays.busy();
            x.paint(0, 0, 5, 3, 1);
            return x;
        }, PictureClues::undo, 7);
        PictureClues x = Stays.busy();
        x.undo();
        Due.is("an undo() is not undone", x.undo(), 6);
        Due.is("mark(3, 2)", x.mark(3, 2), 7);
    }

    /** Promise 25, a text typed since: undo() leaves it, a full one and an empty one. */
    static void undoLeavesText() {
        PictureClues x = new PictureClues();
        x.setClue(0, true);
        x.setClue(1, true);
        Puzzles.type(x, "!".repeat(120));
        x.undo();
        Stays.text("after undo()", x, "!".repeat(120));
        x.clear();
        x.undo();
        Stays.text("after clear() and undo()", x, "");
    }

    private static void recorded(String call, PictureClues x, ToLongFunction<PictureClues> made, boolean change) {
        int before = x.count(8);
        long answer = made.applyAsLong(x);
        Due.is("states after " + call + ", which answered " + answer, x.count(8), change ? before + 1 : before);
    }

    /** Promise 25, each change has one state: the ten calls that the document names, from an empty history on. */
    static void changesAreRecorded() {
        PictureClues x = started(4, 2, 1);
        Puzzles.type(x, MarksTest.TRIALS);
        recorded("addBlock()", x, y -> y.addBlock(0, 1, 1), true);
        recorded("setClue()", x, y -> y.setClue(1, false), true);
        recorded("takeClues()", x, PictureClues::takeClues, true);
        recorded("load()", x, PictureClues::load, true);
        recorded("hint()", x, PictureClues::hint, false);
        recorded("takeHint()", x, PictureClues::takeHint, true);
        recorded("paint()", x, y -> y.paint(0, 0, 1, 1, 0), true);
        recorded("setMark()", x, y -> y.setMark(0, 0, 3), true);
        recorded("clearMarks()", x, PictureClues::clearMarks, true);
        x.start(4, 2, 1);
        recorded("narrow(1)", x, y -> y.narrow(1), true);
        recorded("narrow(2)", x, y -> y.narrow(2), true);
        recorded("narrow(3)", x, y -> y.narrow(3), true);
        recorded("solve()", x, PictureClues::solve, true);
    }

    /** Promise 25, calls that are no changes: they leave all states, also of a full history; errors and NONE are told elsewhere. */
    static void othersAreNotRecorded() {
        Stays.all("line(0, 2)", x -> x.line(0, 2), 1);
        Stays.all("block(0, 0, 2)", x -> x.block(0, 0, 2), 0);
        Stays.all("picture(1, 0)", x -> x.picture(1, 0), 2);
        Stays.all("mark(0, 1)", x -> x.mark(0, 1), 5);
        Stays.all("trial(0, 0, 0)", x -> x.trial(0, 0, 0), 1);
        Stays.all("solutions(9)", x -> x.solutions(9), 1);
        Stays.all("difficulty()", PictureClues::difficulty, 1);
        Stays.all("mistakes()", PictureClues::mistakes, 0);
        Stays.all("hint()", PictureClues::hint, 1);
        Stays.all("hinted(3)", x -> x.hinted(3), 2);
        Stays.all("count(8)", x -> x.count(8), 8);
        Stays.all("digest() - digest()", x -> x.digest() - x.digest(), 0);
    }

    // ---- promise 26

    /** Promise 26, property too small or too large: BAD, and all stays. */
    static void countOutside() {
        Stays.below(0, "count(n)", (x, n) -> x.count(n));
        Stays.above(10, "count(n)", (x, n) -> x.count(n));
    }

    /** Promise 26, the least numbers: those of the least puzzle. */
    static void countLeast() {
        counts("1 by 1", started(1, 1, 1), 1, 1, 1, 0, 0, 0, 0, 0, 0, 0, 0);
    }

    /** Promise 26, the greatest numbers: 8, 8, 3, 16 lines, 64 cells, 128 blocks, 8 states, 120 bytes. */
    static void countGreatest() {
        PictureClues x = started(8, 8, 3);
        for (int i = 0; i < 64; i++) {
            x.paint(i % 8, i / 8, 1, 1, 1 + (i % 8 + i / 8) % 3);
        }
        x.takeClues();
        Due.is("narrow(1)", x.narrow(1), 64);
        Puzzles.type(x, "x".repeat(120));
        counts("greatest", x, 8, 8, 3, 16, 64, 0, 128, 64, 8, 120, 16);
    }

    /** Promise 26, all lines are wrong, and the picture fits none of them. */
    static void countWrongLines() {
        PictureClues x = started(8, 8, 1);
        for (int line = 0; line < 16; line++) {
            x.addBlock(line, 8, 1);
        }
        Due.is("no wrong line: count(5)", x.count(5), 0);
        Due.is("empty picture: count(10)", x.count(10), 0);
        for (int i = 0; i < 8; i++) {
            x.setMark(i, i, 1);
            Due.is("count(5)", x.count(5), 2 * i + 2);
        }
        x.paint(0, 0, 8, 8, 1);
        Due.is("full picture: count(10)", x.count(10), 16);
        x.paint(3, 3, 1, 1, 0);
        Due.is("one cell is missing: count(10)", x.count(10), 14);
    }

    /** Promise 26, clues without blocks are clues; lines without a clue are neither wrong nor fitted. */
    static void countLinesWithClue() {
        PictureClues x = started(3, 2, 1);
        counts("without clues", x, 3, 2, 1, 0, 0, 0, 0, 0, 0, 0, 0);
        x.setClue(4, true);
        counts("one without blocks", x, 3, 2, 1, 1, 0, 0, 0, 0, 1, 0, 1);
        x.paint(2, 0, 1, 1, 1);
        counts("against the picture", x, 3, 2, 1, 1, 0, 0, 0, 1, 2, 0, 0);
        x.setMark(2, 1, 2);
        counts("against a mark", x, 3, 2, 1, 1, 1, 1, 0, 1, 3, 0, 0);
        x.setClue(4, false);
        counts("without clues again", x, 3, 2, 1, 0, 1, 0, 0, 1, 4, 0, 0);
    }

    /** Promise 26, what fits a clue: runs in their order, with their lengths and colors; one off each is no fit. */
    static void countFittingLines() {
        PictureClues x = started(6, 1, 2);
        x.addBlock(0, 2, 1);
        x.addBlock(0, 1, 2);
        String[] rows = {"112000", "011002", "000112", "110020", "211000", "221000", "111200", "112200", "102000", "110000",
            "112002", "011000", "112100", "110110"};
        for (int i = 0; i < rows.length; i++) {
            Puzzles.paint(x, rows[i]);
            Due.is("count(10) of " + rows[i], x.count(10), i < 4 ? 1 : 0);
        }
    }

    /** Promise 26, each number of the busy puzzle: counting changes nothing. */
    static void countEach() {
        long[] due = {5, 3, 2, 5, 0, 0, 5, 7, 8, Stays.TEXT.length(), 2};
        for (int what = 0; what < due.length; what++) {
            int number = what;
            Stays.all("count(" + what + ")", x -> x.count(number), due[what]);
        }
    }

    // ---- promise 27

    private static long exactly(long... numbers) {
        BigInteger hash = BigInteger.valueOf(633);
        for (long number : numbers) {
            hash = hash.multiply(BigInteger.valueOf(31)).add(BigInteger.valueOf(number));
        }
        return hash.longValue();
    }

    /** Promise 27, a count that wraps around: the hash of the least puzzle is the exact one's lowest 64 bits. */
    static void digestWrapsAround() {
        PictureClues x = started(1, 1, 1);
        Due.is("digest()", x.digest(), exactly(1, 1, 1, 0, 0, 0, 0, 0, 0, 0, 0, NONE, 0, 2, 0, 0, NONE, 0, 2, 0, 0, 3, 0));
        boolean positive = false;
        boolean negative = false;
        StringBuilder text = new StringBuilder();
        for (int i = 0; i < 20; i++) {
            x.type(i);
            text.append((char) i);
            positive |= x.digest() > 0;
            negative |= x.digest() < 0;
            Due.is("digest() of a longer text", x.digest(), Stays.digest(x, text.toString()));
        }
        Due.is("both signs", positive && negative ? 1 : 0, 1);
    }

    /** Promise 27, no hint and no text: neither of them adds a number, nor does a line without blocks. */
    static void digestWithoutHintAndText() {
        PictureClues x = started(1, 1, 2);
        x.setClue(1, true);
        Due.is("digest()", x.digest(), exactly(1, 1, 2, 1, 0, 0, 0, 0, 1, 0, 1, NONE, 0, 3, 0, 0, 0, 0, 1, 0, 0, 7, 0));
        x.hint();
        Due.is("digest() with a hint", x.digest(),
                exactly(1, 1, 2, 1, 0, 0, 0, 0, 1, 0, 1, NONE, 0, 3, 0, 0, 0, 0, 1, 0, 0, 7, 0, 1, 0, 0, 1, 1));
        x.type(0);
        Due.is("digest() with a hint and the byte 0", x.digest(),
                exactly(1, 1, 2, 1, 0, 0, 0, 0, 1, 1, 1, NONE, 0, 3, 0, 0, 0, 0, 1, 0, 0, 7, 0, 1, 0, 0, 1, 1, 0));
        x.start(1, 1, 2);
        Due.is("digest() behind start()", x.digest(),
                exactly(1, 1, 2, 0, 0, 0, 0, 0, 0, 1, 0, NONE, 0, 3, 0, 0, NONE, 0, 3, 0, 0, 7, 0, 0));
    }

    /** Promise 27, a wrong line: the starts of its blocks are NONE in the hash. */
    static void digestWithWrongLine() {
        PictureClues x = started(1, 1, 1);
        x.addBlock(0, 1, 1);
        x.setMark(0, 0, 1);
        Due.is("digest()", x.digest(), exactly(1, 1, 1, 1, 1, 1, 1, 0, 2, 0, 0, 1, 1, 0, 1, 1, 1, 1, NONE, NONE,
                NONE, 0, 1, 1, 0, 1, 0));
    }

    /** Promise 27, a full puzzle: 8 by 8 cells, 128 blocks, a hint and 120 bytes. */
    static void digestOfFull() {
        Due.is("blocks of all clues", full().count(6), 128);
        Due.is("bytes of the text", full().count(9), 120);
        Due.is("digest()", full().digest(), digestOfMany());
    }

    private static PictureClues full() {
        PictureClues x = started(8, 8, 3);
        for (int i = 0; i < 64; i++) {
            x.paint(i % 8, i / 8, 1, 1, 1 + (i % 8 + i / 8) % 3);
        }
        x.takeClues();
        x.hint();
        Puzzles.type(x, "~".repeat(120));
        return x;
    }

    /** The digest of full(), asked of several objects: all blocks make more calls than one object answers. */
    private static long digestOfMany() {
        PictureClues x = full();
        long hash = 633;
        for (int what = 0; what <= 10; what++) {
            hash = 31 * hash + x.count(what);
        }
        for (int line = 0; line < 16; line++) {
            PictureClues y = full();
            for (int what = 0; what <= 4; what++) {
                hash = 31 * hash + y.line(line, what);
            }
            for (int i = 0; i < 4 * y.line(line, 0); i++) {
                hash = 31 * hash + y.block(line, i / 4, i % 4);
            }
        }
        PictureClues z = full();
        for (int i = 0; i < 64; i++) {
            hash = 31 * (31 * hash + z.mark(i % 8, i / 8)) + z.picture(i % 8, i / 8);
        }
        for (int what = 0; what <= 4; what++) {
            hash = 31 * hash + z.hinted(what);
        }
        for (int i = 0; i < 120; i++) {
            hash = 31 * hash + '~';
        }
        return hash;
    }

    // ---- the number of calls

    /** Promises 1 to 27, the most calls: the 512th call of an object is answered as the others, light ones and dear ones. */
    static void callsUpTo512() {
        PictureClues x = new PictureClues();
        for (int call = 1; call <= 512; call++) {
            Due.is("paint(), call " + call, x.paint(call % 5, call / 5 % 5, 1, 1, 1), call <= 25 ? 1 : 0);
        }
        PictureClues y = new PictureClues();
        for (int call = 1; call < 512; call++) {
            y.solutions(99);
        }
        Due.is("the digest as call 512", y.digest(), new PictureClues().digest());
    }

    /** Promises 1 to 27, the constants: the errors and NONE have the document's values. */
    static void constants() {
        Due.is("NONE", NONE, -1);
        Due.is("BAD", BAD, -2);
        Due.is("STATE", STATE, -3);
        Due.is("WRONG", PictureClues.WRONG, -4);
    }
}
