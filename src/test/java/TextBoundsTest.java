/** The boundary cases of promises 10 to 12: the text. Each case tells its promise first. */
public final class TextBoundsTest {
    private static final int BAD = PictureClues.BAD, STATE = PictureClues.STATE;
    private static final int MOST = 120;

    public static void main(String[] args) throws IllegalAccessException {
        Cases.run(TextBoundsTest.class);
    }

    private static PictureClues typed(int width, int height, int colors, String text) {
        PictureClues x = new PictureClues();
        x.start(width, height, colors);
        x.addBlock(0, 1, 1);
        x.setMark(0, 0, 2);
        x.paint(0, 0, 1, 1, 1);
        Puzzles.type(x, text);
        Due.is("bytes of '" + text + "'", x.count(9), text.length());
        return x;
    }

    /** Checks the fault of a text, and that the text and everything else stay. */
    private static void fault(int width, int height, int colors, String text, int fault) {
        Stays.all("load() of '" + text + "'", () -> typed(width, height, colors, text), PictureClues::load, -2000 - fault);
        PictureClues x = typed(width, height, colors, text);
        x.load();
        Stays.text("after the fault of '" + text + "'", x, text);
    }

    /** Checks the clues of a text without a fault, and that the text is empty then. */
    private static void good(int width, int height, int colors, String text, int blocks, String clues) {
        PictureClues x = typed(width, height, colors, text);
        Due.is("load() of '" + text + "'", x.load(), blocks);
        Puzzles.same("clues of '" + text + "'", Puzzles.clues(x), clues);
        Stays.text("after load() of '" + text + "'", x, "");
        Due.is("states after load() of '" + text + "'", x.count(8), 4);
    }

    private static PictureClues fullText() {
        PictureClues x = Stays.busy();
        Puzzles.type(x, " ".repeat(MOST - Stays.TEXT.length()));
        Due.is("bytes of the full text", x.count(9), MOST);
        return x;
    }

    // ---- promise 10

    /** Promise 10, the least and the greatest byte: 0 and 127 are taken, and are what they were. */
    static void typeLeastAndGreatest() {
        PictureClues x = new PictureClues();
        Due.is("type(0)", x.type(0), 1);
        Stays.text("with 0", x, "\0");
        Due.is("type(127)", x.type(127), 2);
        Due.is("type(0)", x.type(0), 3);
        Stays.text("with 127", x, "\0\177\0");
    }

    /** Promise 10, each byte from 0 to 127 is taken as it is. */
    static void typeAll() {
        PictureClues x = new PictureClues();
        StringBuilder text = new StringBuilder();
        for (int letter = 0; letter < MOST; letter++) {
            Due.is("type(" + letter + ")", x.type(letter), letter + 1);
            text.append((char) letter);
        }
        Stays.text("of all bytes below 120", x, text.toString());
        Due.is("clear()", x.clear(), MOST);
        text.setLength(0);
        for (int letter = MOST; letter <= 127; letter++) {
            Due.is("type(" + letter + ")", x.type(letter), letter - MOST + 1);
            text.append((char) letter);
        }
        Stays.text("of the bytes from 120", x, text.toString());
    }

    /** Promise 10, letter too small: below 0 is BAD, and all stays. */
    static void typeTooSmall() {
        Stays.below(0, "type(n)", (x, n) -> x.type(n));
    }

    /** Promise 10, letter too large: above 127 is BAD, also if its low byte is a letter, and all stays. */
    static void typeTooLarge() {
        Stays.above(127, "type(n)", (x, n) -> x.type(n));
        Stays.all("type(256 + 'a')", x -> x.type(256 + 'a'), BAD);
        Stays.all("type(65536 + ';')", x -> x.type(65536 + ';'), BAD);
    }

    /** Promise 10, full: the 120th byte is taken, the 121st is STATE, and the text stays as it is. */
    static void typeToFullText() {
        PictureClues x = new PictureClues();
        for (int i = 1; i <= MOST; i++) {
            Due.is("type(33)", x.type(33), i);
        }
        for (int i = 0; i < 3; i++) {
            Due.is("type(34) to the full text", x.type(34), STATE);
        }
        Stays.text("when it is full", x, "!".repeat(MOST));
        Stays.all("type(34)", TextBoundsTest::fullText, y -> y.type(34), STATE);
        Stays.all("type(0)", TextBoundsTest::fullText, y -> y.type(0), STATE);
        Stays.all("type(127)", TextBoundsTest::fullText, y -> y.type(127), STATE);
    }

    /** Promise 10, several apply: BAD comes before STATE, when the text is full. */
    static void typeBadBeforeState() {
        Stays.all("type(128)", TextBoundsTest::fullText, x -> x.type(128), BAD);
        Stays.all("type(-1)", TextBoundsTest::fullText, x -> x.type(-1), BAD);
    }

    /** Promise 10, no change: it has no state in the history, and nothing but the text becomes other. */
    static void typeIsNoChange() {
        Stays.but("t", "type(65)", x -> x.type(65), Stays.TEXT.length() + 1);
        PictureClues x = Stays.busy();
        x.type(65);
        Stays.text("with 65", x, Stays.TEXT + "A");
        x = new PictureClues();
        x.type(65);
        Due.is("count(8)", x.count(8), 0);
        Due.is("undo()", x.undo(), STATE);
    }

    // ---- promise 11

    /** Promise 11, an empty text: answers 0, and all stays. */
    static void clearEmpty() {
        PictureClues x = new PictureClues();
        Due.is("clear()", x.clear(), 0);
        Due.is("clear() again", x.clear(), 0);
        Due.is("count(8)", x.count(8), 0);
        Stays.all("clear() again", () -> cleared(), PictureClues::clear, 0);
    }

    private static PictureClues cleared() {
        PictureClues x = Stays.busy();
        Due.is("clear() of the busy puzzle", x.clear(), Stays.TEXT.length());
        return x;
    }

    /** Promise 11, a full text: answers 120, and then there is place for 120 bytes again, of which none is an old one. */
    static void clearFull() {
        PictureClues x = new PictureClues();
        x.start(1, 1, 1);
        Puzzles.type(x, "1;1".repeat(MOST / 3));
        Due.is("clear()", x.clear(), MOST);
        Due.is("count(9)", x.count(9), 0);
        Due.is("load() of nothing", x.load(), -2000);
        Due.is("type(49)", x.type(49), 1);
        Due.is("load() of 1", x.load(), -2001);
        for (int i = 2; i <= MOST; i++) {
            Due.is("type(32)", x.type(32), i);
        }
        Due.is("type(32)", x.type(32), STATE);
        Due.is("clear()", x.clear(), MOST);
    }

    /** Promise 11, no change: clues, marks, picture, hint and history stay. */
    static void clearIsNoChange() {
        Stays.but("t", "clear()", PictureClues::clear, Stays.TEXT.length());
        PictureClues x = cleared();
        Stays.text("after clear()", x, "");
        Due.is("undo()", x.undo(), 7);
        Due.is("the text does not come back: count(9)", x.count(9), 0);
    }

    // ---- promise 12: texts that end too early

    /** Promise 12, an empty text: it ends too early, the fault is its length 0. */
    static void loadEmptyText() {
        fault(1, 1, 1, "", 0);
        fault(8, 8, 3, "", 0);
    }

    /** Promise 12, blanks alone: the text ends too early, the fault is its length. */
    static void loadBlanks() {
        fault(1, 1, 1, " ", 1);
        fault(1, 1, 1, " ".repeat(MOST), MOST);
    }

    /** Promise 12, too few clues: the fault is the length of the text, also when a ";" or blanks are its end. */
    static void loadTooFewClues() {
        fault(2, 1, 1, "1;1", 3);
        fault(2, 1, 1, "1;1;", 4);
        fault(2, 1, 1, "1;1  ", 5);
        fault(2, 1, 1, "1;1;  ", 6);
        fault(2, 1, 1, "any", 3);
        fault(2, 1, 1, "1;none", 6);
        fault(2, 1, 1, "1a", 2);
        fault(8, 8, 3, "any;any;any;any;any;any;any;any;any;any;any;any;any;any;any", 59);
        fault(8, 8, 3, "any;any;any;any;any;any;any;any;any;any;any;any;any;any;any;", 60);
    }

    /** Promise 12, the greatest fault: a full text that ends too early has the fault 120. */
    static void loadFullTextTooShort() {
        fault(1, 1, 1, "1" + " ".repeat(MOST - 1), MOST);
        fault(1, 1, 1, "1" + " ".repeat(MOST - 2) + ";", MOST);
        fault(1, 1, 1, "1;" + " ".repeat(MOST - 2), MOST);
    }

    /** Promise 12, a fault in the last of 120 bytes: its index is 119, and behind a block there it is 120. */
    static void loadFaultAtTheEnd() {
        fault(1, 1, 1, "1;" + " ".repeat(MOST - 3) + "0", MOST - 1);
        fault(1, 1, 1, "1;1" + " ".repeat(MOST - 4) + ";", MOST - 1);
        fault(1, 1, 1, "1;" + " ".repeat(MOST - 3) + "2", MOST);
        fault(1, 1, 1, "1;" + " ".repeat(MOST - 4) + "2a", MOST);
        fault(1, 1, 1, "1;" + " ".repeat(MOST - 4) + "1b", MOST - 1);
        fault(1, 1, 1, "1;" + " ".repeat(MOST - 4) + "an", MOST - 2);
    }

    // ---- promise 12: texts that go on too long

    /** Promise 12, too many clues: the fault is the ";" behind the last line, whatever follows it. */
    static void loadTooManyClues() {
        fault(1, 1, 1, "1;1;", 3);
        fault(1, 1, 1, "1;1;1", 3);
        fault(1, 1, 1, "any;none  ;;", 10);
        fault(2, 1, 1, "1;1;1;any", 5);
    }

    /** Promise 12, a full text without a fault: all of 120 bytes are read, and then the text is empty. */
    static void loadFullText() {
        good(1, 1, 1, "1;" + " ".repeat(MOST - 3) + "1", 2, "1a;1a");
        good(1, 1, 1, " ".repeat(MOST - 8) + "none;any", 0, "none;any");
        good(1, 1, 1, "any;1a" + " ".repeat(MOST - 6), 1, "any;1a");
    }

    // ---- promise 12: clues

    /** Promise 12, the least and the greatest puzzle: a text for two lines, and one for sixteen. */
    static void loadLeastAndGreatest() {
        good(1, 1, 1, "1;none", 1, "1a;none");
        good(8, 8, 3, "8;8a;8b;8c;any;none;1;1a;1b;1c;11;1a2b3c;2;4 3;none;any", 16,
                "8a;8a;8b;8c;any;none;1a;1a;1b;1c;1a1a;1a2b3c;2a;4a3a;none;any");
    }

    /** Promise 12, an empty clue: two ";" in a row, and one at the beginning, are faults; "none" is a clue without blocks. */
    static void loadEmptyClue() {
        fault(1, 1, 1, ";1", 0);
        fault(1, 1, 1, "  ;1", 2);
        fault(2, 1, 1, "1;;1", 2);
        fault(2, 1, 1, "1; ;1", 3);
        good(2, 1, 1, "none;1;none", 1, "none;1a;none");
    }

    /** Promise 12, "any" takes a clue away, and answers no blocks: the number may be 0. */
    static void loadWithoutBlocks() {
        good(2, 1, 1, "any;any;any", 0, "any;any;any");
        good(2, 1, 1, "none;none;none", 0, "none;none;none");
    }

    /** Promise 12, blanks before and after each part, also between a digit and its letter: they change nothing. */
    static void loadBlanksBetweenParts() {
        good(3, 1, 2, "  1  a  1  b  ;  any  ;  none  ;  1  ", 3, "1a1b;any;none;1a");
        good(3, 1, 2, "1a1b;any;none;1", 3, "1a1b;any;none;1a");
        good(3, 1, 2, " 1 1 ; 1b; 1 ; 1 b", 5, "1a1a;1b;1a;1b");
    }

    /** Promise 12, blanks within words: the first byte of the word is the fault, for its first part is no word. */
    static void loadBlanksWithinWords() {
        fault(1, 1, 1, "an y;1", 0);
        fault(1, 1, 1, "1; no ne", 3);
        fault(1, 1, 1, "n one;1", 0);
    }

    /** Promise 12, bytes next to the blank: 31, 33, 9, 10, 0 and 127 are no blanks, and are the fault. */
    static void loadOtherSpaces() {
        for (char letter : new char[] {31, 33, 9, 10, 13, 0, 127}) {
            fault(1, 1, 1, letter + "1;1", 0);
            fault(1, 1, 1, "1" + letter + ";1", 1);
            fault(1, 1, 1, "1;1" + letter, 3);
            fault(1, 1, 1, "any" + letter + ";1", 3);
            fault(1, 1, 2, "1" + letter + "a;1", 1);
        }
    }

    // ---- promise 12: words

    /** Promise 12, a word that is too short or too long: the fault is its first byte, for it is read as long as possible. */
    static void loadWordTooShortOrTooLong() {
        for (String word : new String[] {"a", "an", "anyy", "anya", "anyz", "n", "no", "non", "nonee", "nonea", "anynone",
            "noneany", "z", "aany", "nnone", "anx", "nony"}) {
            fault(1, 1, 3, word + ";1", 0);
            fault(1, 1, 3, "1;  " + word, 4);
            fault(1, 1, 3, word, 0);
        }
    }

    /** Promise 12, a word as long as "any" or "none" that has one other letter: it is none of these, the fault is its first. */
    static void loadWordWithOtherLetter() {
        for (String word : new String[] {"bny", "zny", "aay", "amy", "anx", "anz", "mone", "oone", "nane", "nome", "nond",
            "nonf", "yna", "enon"}) {
            fault(1, 1, 3, word + ";1", 0);
            fault(1, 1, 3, "none;" + word, 5);
        }
    }

    /** Promise 12, a letter at the beginning of a clue is a word, also a color's letter: it is the fault. */
    static void loadLetterWithoutDigit() {
        fault(1, 1, 3, "b1;1", 0);
        fault(1, 1, 3, "1; c", 3);
    }

    /** Promise 12, words with great letters: no part of them can stand at its place. */
    static void loadGreatLetters() {
        fault(1, 1, 1, "Any;1", 0);
        fault(1, 1, 1, "NONE;1", 0);
        fault(1, 1, 1, "1A;1", 1);
        fault(1, 1, 1, "anyA;1", 3);
        fault(1, 1, 1, "aNy;1", 0);
    }

    /** Promise 12, something behind a word, or a word behind a block, whose first letter is the block's: it is the fault. */
    static void loadBehindWord() {
        fault(1, 1, 1, "any1;1", 3);
        fault(1, 1, 1, "none 1;1", 5);
        fault(1, 1, 1, "any any;1", 4);
        fault(1, 1, 1, "1;none a", 7);
        fault(1, 1, 1, "1 any;1", 3);
    }

    /** Promise 12, bytes next to small letters: those before a and behind z belong to no word. */
    static void loadNextToSmallLetters() {
        fault(1, 1, 1, "`ny;1", 0);
        fault(1, 1, 1, "{;1", 0);
        fault(1, 1, 1, "any`;1", 3);
        fault(1, 1, 1, "any{;1", 3);
        fault(1, 1, 1, "1`;1", 1);
        fault(1, 1, 1, "1{;1", 1);
        fault(1, 1, 3, "2`;1", 1);
    }

    // ---- promise 12: digits and letters

    /** Promise 12, digit too small: 0, and the byte before it, are the fault at the beginning of a block. */
    static void loadDigitTooSmall() {
        fault(8, 1, 1, "0;1;1;1;1;1;1;1;1", 0);
        fault(8, 1, 1, "10;1;1;1;1;1;1;1;1", 1);
        fault(8, 1, 1, "/;1;1;1;1;1;1;1;1", 0);
    }

    /** Promise 12, digit too large: 9, and the byte behind it, are the fault at the beginning of a block. */
    static void loadDigitTooLarge() {
        fault(8, 1, 1, "9;1;1;1;1;1;1;1;1", 0);
        fault(8, 1, 1, "19;1;1;1;1;1;1;1;1", 1);
        fault(8, 1, 1, ":;1;1;1;1;1;1;1;1", 0);
    }

    /** Promise 12, the least and the greatest digit: 1 and 8 are lengths. */
    static void loadDigitsAtBounds() {
        good(8, 1, 1, "8;1;1;1;1;1;1;1;1", 9, "8a;1a;1a;1a;1a;1a;1a;1a;1a");
        good(1, 8, 1, "1;1;1;1;1;1;1;1;8", 9, "1a;1a;1a;1a;1a;1a;1a;1a;8a");
    }

    /** Promise 12, letter too large: that of a color which the puzzle does not have is the fault, for 1, 2 and 3 colors. */
    static void loadLetterTooLarge() {
        fault(1, 1, 1, "1b;1", 1);
        fault(1, 1, 2, "1c;1", 1);
        fault(1, 1, 3, "1d;1", 1);
        fault(1, 1, 3, "1;1z", 3);
        fault(1, 1, 1, "1   c;1", 4);
    }

    /** Promise 12, the letters at the bounds: a, and the last color's of 1, 2 and 3, are taken. */
    static void loadLettersAtBounds() {
        good(1, 1, 1, "1a;1", 2, "1a;1a");
        good(1, 1, 2, "1a;1b", 2, "1a;1b");
        good(1, 1, 3, "1a;1c", 2, "1a;1c");
        good(1, 1, 3, "1 c;1   b", 2, "1c;1b");
    }

    /** Promise 12, two letters: a block has one at most, so the second one is the fault. */
    static void loadTwoLetters() {
        fault(2, 1, 3, "1ab;1;1", 2);
        fault(2, 1, 3, "1a b;1;1", 3);
        fault(2, 1, 3, "1any;1;1", 2);
        fault(2, 1, 3, "1none;1;1", 1);
    }

    // ---- promise 12: rooms

    /** Promise 12, full: a room as great as the line is taken in rows and columns, without blanks and with. */
    static void loadRoomFull() {
        good(3, 2, 2, "1 1;3b;2;2b;1a1b", 7, "1a1a;3b;2a;2b;1a1b");
        good(8, 1, 2, "1111;1;1;1;1;1;1;1;1", 12, "1a1a1a1a;1a;1a;1a;1a;1a;1a;1a;1a");
        good(8, 1, 2, "1a1b1a1b1a1b1a1b;1;1;1;1;1;1;1;1", 16, "1a1b1a1b1a1b1a1b;1a;1a;1a;1a;1a;1a;1a;1a");
    }

    /** Promise 12, room too great by a digit without a letter: the fault is the index behind the digit, not behind blanks. */
    static void loadRoomTooGreatWithoutLetter() {
        fault(2, 1, 1, "3;1;1", 1);
        fault(2, 1, 1, "3   ;1;1", 1);
        fault(2, 1, 1, "3", 1);
        fault(2, 1, 1, "3   ", 1);
        fault(2, 1, 1, " 1 1 ;1;1", 4);
        fault(2, 1, 1, "2;1;  8", 7);
        fault(2, 1, 1, "2 2", 3);
    }

    /** Promise 12, room too great by a block with a letter: the fault is the index behind the letter, also behind blanks. */
    static void loadRoomTooGreatWithLetter() {
        fault(2, 1, 1, "3a;1;1", 2);
        fault(2, 1, 1, "3   a;1;1", 5);
        fault(2, 1, 2, "3b   ;1;1", 2);
        fault(2, 1, 2, "2a1 b;1;1", 5);
        fault(2, 1, 2, "2;1;2 b", 7);
    }

    /** Promise 12, room too great by the gap alone: between blocks of the same color, with the letter and without. */
    static void loadRoomTooGreatByGap() {
        fault(2, 1, 2, "11;1;1", 2);
        fault(2, 1, 2, "11a;1;1", 3);
        fault(2, 1, 2, "1a1;1;1", 3);
        fault(2, 1, 2, "1b1b;1;1", 4);
        good(2, 1, 2, "11b;1;1", 4, "1a1b;1a;1a");
        good(2, 1, 2, "1b1;1;1", 4, "1b1a;1a;1a");
        fault(1, 2, 2, "1;1;1 1", 7);
    }

    /** Promise 12, more blocks than any line has cells: a ninth is too many in 8 cells, with its letter. */
    static void loadNineBlocks() {
        fault(8, 1, 2, "1a1b1a1b1a1b1a1b1a;1;1;1;1;1;1;1;1", 18);
        fault(8, 1, 2, "1a1b1a1b1a1b1a1b1;1;1;1;1;1;1;1;1", 17);
        fault(8, 1, 2, "1a1b1a1b1a1b1a1b1c;1;1;1;1;1;1;1;1", 17);
    }

    /** Promise 12, letter and room both too great: the letter is the fault, whatever the room is, also behind blanks. */
    static void loadLetterBeforeRoom() {
        fault(2, 1, 1, "3b;1;1", 1);
        fault(2, 1, 1, "3   b;1;1", 4);
        fault(2, 1, 2, "8 z", 2);
        fault(2, 1, 3, "2a8d;1;1", 3);
    }

    /** Promise 12, a room too great before another fault: the first one from left to right counts. */
    static void loadRoomBeforeOtherFaults() {
        fault(2, 1, 1, "3!;1;1", 1);
        fault(2, 1, 1, "3   !;1;1", 1);
        fault(2, 1, 1, "3A;1;1", 1);
        fault(2, 1, 1, "30;1;1", 1);
        fault(2, 1, 1, "3a a;1;1", 2);
        fault(2, 1, 1, "3;;;;", 1);
    }

    // ---- promise 12: several faults, and what stays

    /** Promise 12, several faults: the first one from left to right counts. */
    static void loadSeveralFaults() {
        fault(2, 1, 1, "1;0;9;any", 2);
        fault(2, 1, 1, "any1;3;x", 3);
        fault(2, 1, 1, "x;3;1;1;1", 0);
        fault(2, 1, 1, "1;2;1;", 3);
    }

    /** Promise 12, a refused text: all stays, also with a full history and a hint. */
    static void loadRefused() {
        Stays.all("load() of the busy puzzle", PictureClues::load, -2004);
        PictureClues x = Stays.busy();
        x.load();
        Stays.text("after the fault", x, Stays.TEXT);
    }

    private static PictureClues loadable() {
        PictureClues x = Stays.busy();
        x.clear();
        Puzzles.type(x, "any;none;5b;any;1;none;3b;1a1b");
        return x;
    }

    /** Promise 12, a change with a full history: clues become other ones, the text empty, and marks, picture and hint stay. */
    static void loadIsAChange() {
        Stays.but("ct", "load()", TextBoundsTest::loadable, PictureClues::load, 5);
        Stays.change("load()", TextBoundsTest::loadable, PictureClues::load, 5);
        PictureClues x = loadable();
        x.load();
        Stays.text("after load()", x, "");
        Puzzles.same("clues", Puzzles.clues(x), "any;none;5b;any;1a;none;3b;1a1b");
        Due.is("undo()", x.undo(), 7);
        Stays.text("after undo()", x, "");
    }

    /** Promise 12, a second load(): the text was emptied, so it ends too early. */
    static void loadTwice() {
        PictureClues x = loadable();
        Due.is("load()", x.load(), 5);
        Due.is("load() again", x.load(), -2000);
        Due.is("type(49)", x.type(49), 1);
        Due.is("clear()", x.clear(), 1);
    }

    /** Promise 12, full clues before: a text replaces all blocks of an earlier one, and of one that was read up to its fault. */
    static void loadAfterLoad() {
        PictureClues x = typed(2, 2, 1, "2;1;2;1");
        Due.is("load()", x.load(), 4);
        Puzzles.type(x, "2;1;2;1");
        Due.is("load() of the same", x.load(), 4);
        Puzzles.same("clues", Puzzles.clues(x), "2a;1a;2a;1a");
        Puzzles.type(x, "1;2;1;3");
        Due.is("load() with a fault", x.load(), -2007);
        Puzzles.same("clues after the fault", Puzzles.clues(x), "2a;1a;2a;1a");
        x.clear();
        Puzzles.type(x, "1;any;2;none");
        Due.is("load() behind the fault", x.load(), 2);
        Puzzles.same("clues at last", Puzzles.clues(x), "1a;any;2a;none");
    }

    /** Promise 12, wrong lines are no fault: clues that contradict the marks are loaded. */
    static void loadAgainstMarks() {
        PictureClues x = typed(1, 1, 3, "1b;1c");
        Due.is("load()", x.load(), 2);
        Due.is("wrong lines", x.count(5), 2);
    }
}
