/** Promises 1 to 12: the puzzle. */
public final class PuzzleTest {
    private static final int NONE = PictureClues.NONE, BAD = PictureClues.BAD, STATE = PictureClues.STATE;

    public static void main(String[] args) {
        newObject();
        start();
        startForgets();
        addBlock();
        addBlockRoom();
        setClue();
        line();
        lineFillings();
        block();
        blockStarts();
        paint();
        takeClues();
        picture();
        type();
        clear();
        load();
        faultsOfForm();
        faultsOfLettersAndRoom();
        Due.end();
    }

    /** Promise 1. */
    private static void newObject() {
        PictureClues x = new PictureClues();
        long[] counts = new long[11];
        for (int what = 0; what < counts.length; what++) {
            counts[what] = x.count(what);
        }
        Due.are("count() of a new object", counts, 5, 5, 1, 0, 0, 0, 0, 0, 0, 0, 0);
        for (int line = 0; line < 10; line++) {
            Due.is("new: line(" + line + ", 0)", x.line(line, 0), NONE);
        }
        Due.is("new: line(10, 0)", x.line(10, 0), BAD);
        for (int i = 0; i < 25; i++) {
            Due.is("new: mark", x.mark(i % 5, i / 5), 3);
            Due.is("new: picture", x.picture(i % 5, i / 5), 0);
        }
        Due.is("new: hinted(0)", x.hinted(0), STATE);
        Due.is("new: undo()", x.undo(), STATE);
        Due.is("new: clear()", x.clear(), 0);
    }

    /** Promise 2. */
    private static void start() {
        PictureClues x = new PictureClues();
        for (int width = 1; width <= 8; width++) {
            x = new PictureClues();
            for (int height = 1; height <= 8; height++) {
                for (int colors = 1; colors <= 3; colors++) {
                    Due.is("start", x.start(width, height, colors), width + height);
                    Due.is("width", x.count(0), width);
                    Due.is("height", x.count(1), height);
                    Due.is("colors", x.count(2), colors);
                    Due.is("the last mark", x.mark(width - 1, height - 1), (2 << colors) - 1);
                    Due.is("no mark behind", x.mark(width, height - 1), BAD);
                    Due.is("no mark below", x.mark(width - 1, height), BAD);
                }
            }
        }
        int[] outside = {0, 9, -1, Integer.MIN_VALUE, Integer.MAX_VALUE};
        long before = x.digest();
        for (int strange : outside) {
            Due.is("start(" + strange + ", 1, 1)", x.start(strange, 1, 1), BAD);
            Due.is("start(1, " + strange + ", 1)", x.start(1, strange, 1), BAD);
            Due.is("start(1, 1, " + strange + ")", x.start(1, 1, strange), BAD);
        }
        Due.is("start(1, 1, 4)", x.start(1, 1, 4), BAD);
        Due.is("digest() after bad starts", x.digest(), before);
    }

    private static void startForgets() {
        PictureClues x = new PictureClues();
        x.start(2, 2, 3);
        Puzzles.type(x, "1; any");
        x.paint(0, 0, 2, 2, 3);
        x.addBlock(0, 2, 1);
        x.setMark(1, 1, 4);
        Due.is("hint()", x.hint(), 1);
        Due.is("start(2, 2, 3)", x.start(2, 2, 3), 4);
        Due.are("marks after start", Puzzles.marks(x), 15, 15, 15, 15);
        Due.are("picture after start", Puzzles.picture(x), 0, 0, 0, 0);
        Puzzles.same("clues after start", Puzzles.clues(x), "any;any;any;any");
        Due.is("hinted(0) after start", x.hinted(0), STATE);
        Due.is("takeHint() after start", x.takeHint(), STATE);
        Due.is("undo() after start", x.undo(), STATE);
        Due.is("bytes of the text after start", x.count(9), 6);
        x.start(3, 1, 1);
        Due.are("fewer colors", Puzzles.marks(x), 3, 3, 3);
        x.start(3, 2, 2);
        Due.are("more colors", Puzzles.marks(x), 7, 7, 7, 7, 7, 7);
    }

    /** Promise 3. */
    private static void addBlock() {
        PictureClues x = new PictureClues();
        x.start(5, 3, 2);
        long before = x.digest();
        for (int strange : Puzzles.STRANGE) {
            Due.is("addBlock(" + strange + ", 1, 1)", x.addBlock(strange, 1, 1), BAD);
            Due.is("addBlock(0, " + strange + ", 1)", x.addBlock(0, strange, 1), BAD);
            Due.is("addBlock(0, 1, " + strange + ")", x.addBlock(0, 1, strange), BAD);
        }
        Due.is("addBlock(8, 1, 1)", x.addBlock(8, 1, 1), BAD);
        Due.is("addBlock(0, 0, 1)", x.addBlock(0, 0, 1), BAD);
        Due.is("addBlock(0, 9, 1)", x.addBlock(0, 9, 1), BAD);
        Due.is("addBlock(0, 1, 0)", x.addBlock(0, 1, 0), BAD);
        Due.is("addBlock(0, 1, 3)", x.addBlock(0, 1, 3), BAD);
        Due.is("BAD comes before STATE", x.addBlock(0, 8, 3), BAD);
        Due.is("addBlock(0, 8, 1)", x.addBlock(0, 8, 1), STATE);
        Due.is("digest() after errors", x.digest(), before);
        Due.is("addBlock(0, 2, 1)", x.addBlock(0, 2, 1), 1);
        Due.is("addBlock(0, 2, 1)", x.addBlock(0, 2, 1), 2);
        Due.is("room", x.line(0, 1), 5);
        Due.is("addBlock(0, 1, 2)", x.addBlock(0, 1, 2), STATE);
        Due.is("addBlock(7, 1, 2)", x.addBlock(7, 1, 2), 1);
        Due.is("addBlock(7, 2, 1)", x.addBlock(7, 2, 1), 2);
        Puzzles.same("clues", Puzzles.clues(x), "2a2a;any;any;any;any;any;any;1b2a");
        Due.is("states", x.count(8), 4);
    }

    private static void addBlockRoom() {
        PictureClues x = new PictureClues();
        x.start(8, 3, 3);
        for (int i = 0; i < 8; i++) {
            Due.is("block " + i, x.addBlock(0, 1, 1 + i % 3), i + 1);
        }
        Due.is("a ninth block", x.addBlock(0, 1, 3), STATE);
        Due.is("room of 8 blocks", x.line(0, 1), 8);
        Due.is("room 3 of a column", x.addBlock(3, 3, 1), 1);
        Due.is("room 4 of a column", x.addBlock(4, 4, 1), STATE);
        Due.is("no clue by an error", x.line(4, 0), NONE);
        x.setClue(1, true);
        Due.is("a block of 8", x.addBlock(1, 8, 2), 1);
        for (int i = 0; i < 4; i++) {
            x.addBlock(2, 1, 1);
        }
        Due.is("room of four equal blocks", x.line(2, 1), 7);
        Due.is("a fifth equal block", x.addBlock(2, 1, 1), STATE);
        Due.is("a fifth block of another color", x.addBlock(2, 1, 2), 5);
    }

    /** Promise 4. */
    private static void setClue() {
        PictureClues x = new PictureClues();
        x.start(3, 2, 1);
        long before = x.digest();
        for (int strange : new int[] {-1, 5, Integer.MIN_VALUE, Integer.MAX_VALUE}) {
            Due.is("setClue(" + strange + ", true)", x.setClue(strange, true), BAD);
            Due.is("setClue(" + strange + ", false)", x.setClue(strange, false), BAD);
        }
        Due.is("digest() after errors", x.digest(), before);
        Due.is("setClue(4, false)", x.setClue(4, false), 0);
        Due.is("setClue(4, true)", x.setClue(4, true), 0);
        Due.is("line(4, 0)", x.line(4, 0), 0);
        Due.is("setClue(4, true)", x.setClue(4, true), 1);
        x.addBlock(4, 2, 1);
        Due.is("setClue(4, true) with a block", x.setClue(4, true), 1);
        Due.is("line(4, 0)", x.line(4, 0), 0);
        Due.is("line(4, 1)", x.line(4, 1), 0);
        Due.is("block(4, 0, 0)", x.block(4, 0, 0), BAD);
        Due.is("states", x.count(8), 5);
        x.addBlock(4, 1, 1);
        Due.is("setClue(4, false)", x.setClue(4, false), 1);
        Due.is("line(4, 0)", x.line(4, 0), NONE);
        Due.is("addBlock(4, 2, 1)", x.addBlock(4, 2, 1), 1);
    }

    /** Promise 5. */
    private static void line() {
        PictureClues x = new PictureClues();
        x.start(4, 3, 2);
        for (int strange : Puzzles.STRANGE) {
            Due.is("line(" + strange + ", 0)", x.line(strange, 0), BAD);
            Due.is("line(0, " + strange + ")", x.line(0, strange), BAD);
        }
        Due.is("line(7, 0)", x.line(7, 0), BAD);
        Due.is("line(0, 5)", x.line(0, 5), BAD);
        Due.is("line(6, 0)", x.line(6, 0), NONE);
        Due.is("line(6, 1)", x.line(6, 1), 0);
        Due.is("line(6, 4)", x.line(6, 4), 0);
        x.addBlock(6, 1, 1);
        x.addBlock(6, 1, 1);
        Due.is("line(6, 0)", x.line(6, 0), 2);
        Due.is("line(6, 1)", x.line(6, 1), 3);
        Due.is("line(6, 2)", x.line(6, 2), 1);
        Due.is("line(6, 3)", x.line(6, 3), 0);
        Due.is("line(6, 4)", x.line(6, 4), 0);
        x.setMark(3, 1, 6);
        Due.is("wrong: line(6, 2)", x.line(6, 2), 0);
        Due.is("wrong: line(6, 4)", x.line(6, 4), 1);
        Due.is("not known: line(6, 3)", x.line(6, 3), 0);
        x.setMark(3, 1, 4);
        Due.is("known: line(6, 3)", x.line(6, 3), 1);
        Due.is("known: line(1, 3)", x.line(1, 3), 1);
        Due.is("known: line(0, 3)", x.line(0, 3), 0);
        Due.is("without a clue not wrong: line(1, 4)", x.line(1, 4), 0);
    }

    private static void lineFillings() {
        PictureClues x = new PictureClues();
        x.start(8, 5, 3);
        Due.is("4 to the 8", x.line(0, 2), 65536);
        Due.is("4 to the 5", x.line(12, 2), 1024);
        x.setMark(7, 0, 1);
        x.setMark(6, 0, 10);
        Due.is("4 to the 6 times 2", x.line(0, 2), 8192);
        Due.is("4 to the 4", x.line(12, 2), 256);
        x.setClue(1, true);
        Due.is("none", x.line(1, 2), 1);
        x.addBlock(1, 1, 1);
        Due.is("1a", x.line(1, 2), 8);
        x.addBlock(1, 1, 1);
        Due.is("1a1a", x.line(1, 2), 21);
        x.addBlock(1, 1, 2);
        Due.is("1a1a1b", x.line(1, 2), 35);
        x.setMark(0, 1, 2);
        Due.is("1a1a1b that begins at 0", x.line(1, 2), 15);
        x.setMark(2, 1, 14);
        Due.is("a1a1b", x.line(1, 2), 5);
    }

    /** Promise 6. */
    private static void block() {
        PictureClues x = new PictureClues();
        x.start(5, 2, 3);
        x.addBlock(1, 2, 1);
        x.addBlock(1, 1, 3);
        for (int strange : Puzzles.STRANGE) {
            Due.is("block(" + strange + ", 0, 0)", x.block(strange, 0, 0), BAD);
            Due.is("block(1, " + strange + ", 0)", x.block(1, strange, 0), BAD);
            Due.is("block(1, 0, " + strange + ")", x.block(1, 0, strange), BAD);
        }
        Due.is("block(7, 0, 0)", x.block(7, 0, 0), BAD);
        Due.is("block(1, 2, 0)", x.block(1, 2, 0), BAD);
        Due.is("block(1, 0, 4)", x.block(1, 0, 4), BAD);
        Due.is("without a clue: block(0, 0, 0)", x.block(0, 0, 0), BAD);
        x.setClue(0, true);
        Due.is("without blocks: block(0, 0, 2)", x.block(0, 0, 2), BAD);
        Due.are("block(1, 0, ..)", blockOf(x, 1, 0), 2, 1, 0, 2);
        Due.are("block(1, 1, ..)", blockOf(x, 1, 1), 1, 3, 2, 4);
        x.setMark(1, 1, 1);
        x.setMark(4, 1, 7);
        Due.is("wrong: line(1, 4)", x.line(1, 4), 1);
        Due.are("wrong: block(1, 0, ..)", blockOf(x, 1, 0), 2, 1, NONE, NONE);
        Due.are("wrong: block(1, 1, ..)", blockOf(x, 1, 1), 1, 3, NONE, NONE);
        Due.is("wrong: block(1, 2, 2)", x.block(1, 2, 2), BAD);
    }

    private static void blockStarts() {
        PictureClues x = new PictureClues();
        x.start(1, 8, 1);
        x.addBlock(8, 2, 1);
        x.addBlock(8, 1, 1);
        Due.are("2 1 in 8: the first", blockOf(x, 8, 0), 2, 1, 0, 4);
        Due.are("2 1 in 8: the second", blockOf(x, 8, 1), 1, 1, 3, 7);
        x.setMark(0, 1, 1);
        Due.are("from 2: the first", blockOf(x, 8, 0), 2, 1, 2, 4);
        Due.are("from 2: the second", blockOf(x, 8, 1), 1, 1, 5, 7);
        x.setMark(0, 5, 1);
        Due.are("without 5: the first", blockOf(x, 8, 0), 2, 1, 2, 3);
        Due.are("without 5: the second", blockOf(x, 8, 1), 1, 1, 6, 7);
        x.setMark(0, 4, 2);
        Due.are("with 4: the first", blockOf(x, 8, 0), 2, 1, 3, 3);
    }

    private static long[] blockOf(PictureClues x, int line, int block) {
        long[] all = new long[4];
        for (int what = 0; what < 4; what++) {
            all[what] = x.block(line, block, what);
        }
        return all;
    }

    /** Promise 7. */
    private static void paint() {
        PictureClues x = new PictureClues();
        x.start(4, 3, 2);
        long before = x.digest();
        for (int strange : Puzzles.STRANGE) {
            Due.is("paint x " + strange, x.paint(strange, 0, 1, 1, 1), BAD);
            Due.is("paint y " + strange, x.paint(0, strange, 1, 1, 1), BAD);
            Due.is("paint width " + strange, x.paint(1, 1, strange, 1, 1), BAD);
            Due.is("paint height " + strange, x.paint(1, 1, 1, strange, 1), BAD);
            Due.is("paint color " + strange, x.paint(0, 0, 1, 1, strange), BAD);
        }
        Due.is("paint(4, 0, 1, 1, 1)", x.paint(4, 0, 1, 1, 1), BAD);
        Due.is("paint(0, 3, 1, 1, 1)", x.paint(0, 3, 1, 1, 1), BAD);
        Due.is("paint(0, 0, 0, 1, 1)", x.paint(0, 0, 0, 1, 1), BAD);
        Due.is("paint(0, 0, 1, 0, 1)", x.paint(0, 0, 1, 0, 1), BAD);
        Due.is("paint(2, 0, 3, 1, 1)", x.paint(2, 0, 3, 1, 1), BAD);
        Due.is("paint(0, 2, 1, 2, 1)", x.paint(0, 2, 1, 2, 1), BAD);
        Due.is("paint(0, 0, 1, 1, 3)", x.paint(0, 0, 1, 1, 3), BAD);
        Due.is("digest() after errors", x.digest(), before);
        Due.is("paint(1, 1, 3, 2, 2)", x.paint(1, 1, 3, 2, 2), 6);
        Due.is("paint(0, 0, 2, 2, 1)", x.paint(0, 0, 2, 2, 1), 4);
        Due.are("the picture", Puzzles.picture(x), 1, 1, 0, 0, 1, 1, 2, 2, 0, 2, 2, 2);
        Due.is("paint(0, 0, 4, 3, 2)", x.paint(0, 0, 4, 3, 2), 7);
        Due.is("paint(0, 0, 4, 3, 2)", x.paint(0, 0, 4, 3, 2), 0);
        Due.is("paint(3, 2, 1, 1, 0)", x.paint(3, 2, 1, 1, 0), 1);
        Due.is("states", x.count(8), 5);
        x.start(8, 8, 3);
        Due.is("paint(0, 0, 8, 8, 3)", x.paint(0, 0, 8, 8, 3), 64);
        Due.is("paint(7, 7, 1, 1, 1)", x.paint(7, 7, 1, 1, 1), 1);
    }

    /** Promise 8. */
    private static void takeClues() {
        PictureClues x = new PictureClues();
        x.start(5, 3, 3);
        Puzzles.paint(x, "11022", "12100", "00000");
        x.addBlock(2, 3, 1);
        Due.is("takeClues()", x.takeClues(), 5);
        Puzzles.same("clues", Puzzles.clues(x), "2a2b;1a1b1a;none;2a;1a1b;1a;1b;1b");
        Due.is("lines that the picture fits", x.count(10), 8);
        Due.is("states", x.count(8), 8);
        x.undo();
        Puzzles.same("clues before", Puzzles.clues(x), "any;any;3a;any;any;any;any;any");
        x.start(2, 2, 1);
        Due.is("takeClues() of the empty picture", x.takeClues(), 0);
        Puzzles.same("clues", Puzzles.clues(x), "none;none;none;none");
        x.start(8, 1, 3);
        Puzzles.paint(x, "12312312");
        Due.is("takeClues() of 8 blocks", x.takeClues(), 8);
        Puzzles.same("clues", Puzzles.clues(x), "1a1b1c1a1b1c1a1b;1a;1b;1c;1a;1b;1c;1a;1b");
        x.start(8, 1, 1);
        x.paint(0, 0, 8, 1, 1);
        Due.is("takeClues() of a full row", x.takeClues(), 1);
        Due.is("its length", x.block(0, 0, 0), 8);
    }

    /** Promise 9. */
    private static void picture() {
        PictureClues x = new PictureClues();
        x.start(3, 2, 3);
        Puzzles.paint(x, "012", "301");
        Due.are("the picture", Puzzles.picture(x), 0, 1, 2, 3, 0, 1);
        for (int strange : Puzzles.STRANGE) {
            Due.is("picture(" + strange + ", 0)", x.picture(strange, 0), BAD);
            Due.is("picture(0, " + strange + ")", x.picture(0, strange), BAD);
        }
        Due.is("picture(3, 0)", x.picture(3, 0), BAD);
        Due.is("picture(0, 2)", x.picture(0, 2), BAD);
    }

    /** Promise 10. */
    private static void type() {
        PictureClues x = new PictureClues();
        Due.is("type(0)", x.type(0), 1);
        Due.is("type(127)", x.type(127), 2);
        for (int strange : new int[] {-1, 128, 255, 256 + 49, Integer.MIN_VALUE, Integer.MAX_VALUE}) {
            Due.is("type(" + strange + ")", x.type(strange), BAD);
        }
        for (int i = 3; i <= 120; i++) {
            Due.is("type(32)", x.type(32), i);
        }
        long before = x.digest();
        Due.is("type(32) to a full text", x.type(32), STATE);
        Due.is("type(128) to a full text", x.type(128), BAD);
        Due.is("digest() after errors", x.digest(), before);
        Due.is("bytes", x.count(9), 120);
        Due.is("no change", x.count(8), 0);
    }

    /** Promise 11. */
    private static void clear() {
        PictureClues x = new PictureClues();
        Due.is("clear()", x.clear(), 0);
        Puzzles.type(x, "none");
        Due.is("clear()", x.clear(), 4);
        Due.is("bytes", x.count(9), 0);
        Due.is("clear()", x.clear(), 0);
        Due.is("type(49)", x.type(49), 1);
        Due.is("no change", x.count(8), 0);
    }

    /** Promise 12. */
    private static void load() {
        PictureClues x = new PictureClues();
        x.start(5, 2, 3);
        x.addBlock(6, 1, 1);
        Puzzles.type(x, " 1 1 a 2b;any ; none;1c;  2a;1 1b;any");
        Due.is("load()", x.load(), 7);
        Puzzles.same("clues", Puzzles.clues(x), "1a1a2b;any;none;1c;2a;1a1b;any");
        Due.is("bytes", x.count(9), 0);
        Due.is("states", x.count(8), 2);
        x.undo();
        Puzzles.same("clues before", Puzzles.clues(x), "any;any;any;any;any;any;1a");
        Due.is("undo() leaves the text", x.count(9), 0);
        x.setMark(0, 0, 4);
        x.paint(0, 0, 1, 1, 2);
        Puzzles.type(x, "any;any;any;any;any;any;any    ");
        Due.is("load() without blocks", x.load(), 0);
        Due.is("marks stay", x.mark(0, 0), 4);
        Due.is("the picture stays", x.picture(0, 0), 2);
        x.start(8, 8, 1);
        String full = "1 1 1 1;1 1 1 1;8;8;8;8;8;8;8;8;8;8;8;8;8;8";
        Puzzles.type(x, full + " ".repeat(120 - full.length()));
        Due.is("load() of 120 bytes", x.load(), 22);
    }

    private static void fault(int width, int height, int colors, String text, int fault) {
        PictureClues x = new PictureClues();
        x.start(width, height, colors);
        x.addBlock(0, 1, 1);
        Puzzles.type(x, text);
        long before = x.digest();
        int due = fault < 0 ? -1 - fault : -2000 - fault;
        Due.is("load() of '" + text + "'", x.load(), due);
        if (fault >= 0) {
            Due.is("digest() after the fault of '" + text + "'", x.digest(), before);
        }
    }

    /** What fault() takes for a text without a fault, which has some blocks. */
    private static int blocks(int number) {
        return -1 - number;
    }

    private static void faultsOfForm() {
        fault(1, 1, 1, "", 0);
        fault(1, 1, 1, "   ", 3);
        fault(1, 1, 1, "1", 1);
        fault(1, 1, 1, "1;", 2);
        fault(1, 1, 1, "1; ", 3);
        fault(1, 1, 1, "1;1;", 3);
        fault(1, 1, 1, "1;1 ;1", 4);
        fault(1, 1, 1, "1;1", blocks(2));
        fault(1, 1, 1, ";1", 0);
        fault(1, 1, 1, " ;1", 1);
        fault(1, 1, 1, "1;;", 2);
        fault(1, 1, 1, "0;1", 0);
        fault(1, 1, 1, "9;1", 0);
        fault(1, 1, 1, "1;\t1", 2);
        fault(1, 1, 1, "1:1", 1);
        fault(1, 1, 1, "A;1", 0);
        fault(1, 1, 1, "any;none", blocks(0));
        fault(1, 1, 1, " any ; none ", blocks(0));
        fault(1, 1, 1, "an y;none", 0);
        fault(1, 1, 1, "anyy;none", 0);
        fault(1, 1, 1, "an", 0);
        fault(1, 1, 1, "  nonet;1", 2);
        fault(1, 1, 1, "anynone;1", 0);
        fault(1, 1, 1, "a;1", 0);
        fault(1, 1, 1, "1;b", 2);
        fault(1, 1, 1, "any1;1", 3);
        fault(1, 1, 1, "any 1;1", 4);
        fault(1, 1, 1, "any any;1", 4);
        fault(1, 1, 1, "none;any x", 9);
        fault(1, 1, 1, "any", 3);
        fault(1, 1, 1, "Any;1", 0);
        fault(1, 1, 1, "anY;1", 0);
    }

    private static void faultsOfLettersAndRoom() {
        fault(1, 1, 2, "1a;1b", blocks(2));
        fault(1, 1, 2, "1 a ;1  b ", blocks(2));
        fault(1, 1, 2, "1c;1b", 1);
        fault(1, 1, 2, "1  c;1b", 3);
        fault(1, 1, 3, "1c;1d", 4);
        fault(1, 1, 3, "1z;1", 1);
        fault(1, 1, 3, "1any;1", 2);
        fault(1, 1, 3, "1none;1", 1);
        fault(1, 1, 3, "1 any;1", 3);
        fault(1, 1, 3, "1aa;1", 2);
        fault(1, 1, 3, "1a a;1", 3);
        fault(1, 1, 3, "1A;1", 1);
        fault(2, 1, 1, "3;1;1", 1);
        fault(2, 1, 1, "3 ;1;1", 1);
        fault(2, 1, 1, "3a;1;1", 2);
        fault(2, 1, 1, "3   a;1;1", 5);
        fault(2, 1, 1, "3   b;1;1", 4);
        fault(2, 1, 1, "3   x", 4);
        fault(2, 1, 1, "3 !", 1);
        fault(2, 1, 1, "3", 1);
        fault(2, 1, 1, "11", 2);
        fault(2, 1, 2, "11b;1;1", blocks(4));
        fault(2, 1, 2, "1b1;1;1", blocks(4));
        fault(2, 1, 2, "1b1b;1;1", 4);
        fault(2, 1, 2, "1b 1  ;1;1", blocks(4));
        fault(2, 1, 2, "2;1;2", 5);
        fault(2, 1, 2, "2;1;1 1b", 8);
        fault(8, 1, 1, "1111;1;1;1;1;1;1;1;1", blocks(12));
        fault(8, 1, 1, "11111;1;1;1;1;1;1;1;1", 5);
        fault(8, 1, 2, "1a1b1a1b1a1b1a1b1a", 18);
        fault(8, 1, 2, "1a1b1a1b1a1b1a1b1c", 17);
    }
}
