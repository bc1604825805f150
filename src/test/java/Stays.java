import java.util.Arrays;
import java.util.function.Supplier;
import java.util.function.ToLongFunction;

/** Tells what a call changes in a puzzle, and what stays as it was. */
final class Stays {
    private static final int BAD = PictureClues.BAD, STATE = PictureClues.STATE;

    /** The text that busy() leaves. It has a fault, so it stays through load(), too. */
    static final String TEXT = "1b; no\0";

    /** The parts of a puzzle: its size, clues, marks, picture, the kept hint, and the number of states in the history. */
    private static final String PARTS = "scmphn";

    /** A call with one number that is to be out of range. */
    interface Numbered {
        long call(PictureClues x, int number);
    }

    private Stays() {
    }

    /**
     * A puzzle of 5 by 3 cells and 2 colors in which everything is there that a call can change: clues, marks and a
     * picture, a full history of states that differ, a hint and a text. Row 0 is full, no line is wrong,
     * and there is one solution: 11011, 02220, 00000.
     */
    static PictureClues busy() {
        PictureClues x = new PictureClues();
        x.start(5, 3, 2);
        x.setClue(2, true);
        x.addBlock(0, 2, 1);
        x.addBlock(0, 2, 1);
        x.addBlock(1, 3, 2);
        x.paint(1, 0, 3, 2, 2);
        x.setMark(0, 1, 5);
        x.addBlock(7, 1, 1);
        x.paint(4, 2, 1, 1, 1);
        x.setMark(3, 2, 3);
        x.addBlock(3, 1, 1);
        Due.is("hint() of the busy puzzle", x.hint(), 1);
        Puzzles.type(x, TEXT);
        return x;
    }

    /** The busy puzzle with a mark against row 0, so that this line is wrong; the hint is kept. */
    static PictureClues wrong() {
        PictureClues x = busy();
        x.setMark(2, 0, 2);
        return x;
    }

    /** The busy puzzle solved but for the picture: all cells are known, and there is no further hint. */
    static PictureClues known() {
        PictureClues x = busy();
        x.narrow(2);
        Due.is("known cells of the busy puzzle that is narrowed", x.count(4), 15);
        return x;
    }

    /** Checks that a call on the busy puzzle answers what is due, and changes nothing. */
    static void all(String call, ToLongFunction<PictureClues> made, long due) {
        all(call, Stays::busy, made, due);
    }

    /** Checks that a call on a puzzle answers what is due, and changes nothing, not even what undo() would restore. */
    static void all(String call, Supplier<PictureClues> make, ToLongFunction<PictureClues> made, long due) {
        PictureClues called = make.get();
        PictureClues other = make.get();
        Due.is(call, made.applyAsLong(called), due);
        String[] got = parts(called);
        String[] want = parts(other);
        for (int i = 0; i < PARTS.length(); i++) {
            Puzzles.same("part " + PARTS.charAt(i) + " after " + call, got[i], want[i]);
        }
        Due.are("the digests and the undo() after " + call, trail(called), trail(other));
    }

    /** Checks that numbers below a range are BAD on the busy puzzle, and change nothing. */
    static void below(int least, String call, Numbered made) {
        int[] numbers = {least - 1, Math.min(least - 1, -1), least - 8, least - 256, -(1 << 30), Integer.MIN_VALUE,
            Integer.MIN_VALUE + Math.max(least, 0)};
        for (int number : numbers) {
            all(call + " with " + number, x -> made.call(x, number), BAD);
        }
    }

    /** Checks that numbers above a range are BAD on the busy puzzle, and change nothing. */
    static void above(int greatest, String call, Numbered made) {
        int[] numbers = {greatest + 1, greatest + 8, greatest + 32, greatest + 64, greatest + 256, greatest + (1 << 16),
            1 << 30, Integer.MAX_VALUE};
        for (int number : numbers) {
            all(call + " with " + number, x -> made.call(x, number), BAD);
        }
    }

    /**
     * Checks what a call on the busy puzzle changes: the parts that are named (t is the text) and no other. As the history
     * is full already, the number of its states is among them only if it becomes smaller.
     */
    static void but(String changed, String call, ToLongFunction<PictureClues> made, long due) {
        but(changed, call, Stays::busy, made, due);
    }

    /** The same for any puzzle that has the text of the busy one. */
    static void but(String changed, String call, Supplier<PictureClues> make, ToLongFunction<PictureClues> made, long due) {
        PictureClues x = make.get();
        String[] before = parts(x);
        Due.is(call, made.applyAsLong(x), due);
        String[] after = parts(x);
        for (int i = 0; i < PARTS.length(); i++) {
            boolean becomesOther = changed.indexOf(PARTS.charAt(i)) >= 0;
            if (before[i].equals(after[i]) == becomesOther) {
                Due.fail("part " + PARTS.charAt(i) + " after " + call + " is " + after[i] + ", and was " + before[i]);
            }
        }
        if (changed.indexOf('t') < 0) {
            text("after " + call, x, TEXT);
        }
    }

    /** Checks that a call on the busy puzzle is a change: undo() behind it restores clues, marks and picture, and no more. */
    static void change(String call, ToLongFunction<PictureClues> made, long due) {
        change(call, Stays::busy, made, due);
    }

    /** The same for any puzzle with a full history. */
    static void change(String call, Supplier<PictureClues> make, ToLongFunction<PictureClues> made, long due) {
        for (int more = 0; more < 8; more++) {
            PictureClues x = make.get();
            Due.is(call, made.applyAsLong(x), due);
            Due.is("states after " + call, x.count(8), 8);
            Due.is("undo() of " + call, x.undo(), 7);
            PictureClues other = make.get();
            for (int i = 0; i < more; i++) {
                Due.is("undo() number " + i + " after that", x.undo(), 6 - i);
                other.undo();
            }
            String[] got = parts(x);
            String[] want = parts(other);
            for (int i = 0; i < PARTS.indexOf('n'); i++) {
                Puzzles.same("part " + PARTS.charAt(i) + " of state " + more + " before " + call, got[i], want[i]);
            }
            if (more == 7) {
                Due.is("the oldest state, dropped by " + call, x.undo(), STATE);
            }
        }
    }

    /** Checks the bytes of the text: the digest that they make with everything else is the document's. */
    static void text(String when, PictureClues x, String text) {
        Due.is("bytes of the text " + when, x.count(9), text.length());
        Due.is("the digest with the text " + when, x.digest(), digest(x, text));
    }

    /** The digest as the document has it, from the answers of the other calls, when the text is known. */
    static long digest(PictureClues x, String text) {
        long hash = 633;
        for (int what = 0; what <= 10; what++) {
            hash = 31 * hash + x.count(what);
        }
        for (int line = 0; line < x.count(0) + x.count(1); line++) {
            for (int what = 0; what <= 4; what++) {
                hash = 31 * hash + x.line(line, what);
            }
            for (int i = 0; i < 4 * x.line(line, 0); i++) {
                hash = 31 * hash + x.block(line, i / 4, i % 4);
            }
        }
        long[] marks = Puzzles.marks(x);
        long[] picture = Puzzles.picture(x);
        for (int i = 0; i < marks.length; i++) {
            hash = 31 * (31 * hash + marks[i]) + picture[i];
        }
        for (int what = 0; what <= 4 && x.hinted(0) != STATE; what++) {
            hash = 31 * hash + x.hinted(what);
        }
        for (int i = 0; i < text.length(); i++) {
            hash = 31 * hash + text.charAt(i);
        }
        return hash;
    }

    private static String[] parts(PictureClues x) {
        return new String[] {x.count(0) + " " + x.count(1) + " " + x.count(2), Puzzles.clues(x),
            Arrays.toString(Puzzles.marks(x)), Arrays.toString(Puzzles.picture(x)), Arrays.toString(Puzzles.hinted(x)),
            Integer.toString(x.count(8))};
    }

    /** The digest now and after each undo(), with the answers of undo(). */
    private static long[] trail(PictureClues x) {
        long[] trail = new long[20];
        for (int i = 0; i < trail.length; i += 2) {
            trail[i] = x.digest();
            trail[i + 1] = x.undo();
        }
        return trail;
    }
}
