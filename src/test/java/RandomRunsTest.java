import java.util.Random;

/** Runs of calls by chance, the same ones each time, compared with the slow model call by call. */
public final class RandomRunsTest {
    private static int wrong = 0;
    private static final StringBuilder told = new StringBuilder();

    private final Random random;
    private final PictureClues fast = new PictureClues();
    private final SlowClues slow = new SlowClues();
    private final int most;
    private int calls = 0;
    private int w = 5, h = 5, colors = 1;

    private RandomRunsTest(long seed, int most) {
        random = new Random(seed);
        this.most = most;
    }

    public static void main(String[] args) {
        int runs = args.length > 0 ? Integer.parseInt(args[0]) : 1500;
        long from = args.length > 1 ? Long.parseLong(args[1]) : 0;
        for (long seed = from; seed < from + runs && wrong == 0; seed++) {
            told.setLength(0);
            // Few runs on great puzzles, as the slow model takes long for them.
            new RandomRunsTest(seed, seed % 40 == 0 ? 8 : seed % 4 == 0 ? 5 : 4).run(seed);
        }
        System.out.println(wrong == 0 ? "all answers are as due" : wrong + " answers are not as due");
        if (wrong != 0) {
            System.exit(1);
        }
    }

    private void run(long seed) {
        begin();
        // A step makes some hundred calls at most, and an object answers 512.
        for (int i = 0; i < 60 && wrong == 0 && calls < 360; i++) {
            step(random.nextInt(100));
            if (i % 4 == 0) {
                due("digest()", fast.digest(), slow.digest());
            }
        }
        if (wrong != 0) {
            System.out.println("seed " + seed + "\n" + told);
        }
    }

    private void due(String call, long got, long want) {
        calls++;
        told.append(call).append(" -> ").append(got).append('\n');
        if (got != want) {
            wrong++;
            told.append("due is ").append(want).append('\n');
        }
    }

    private void begin() {
        w = 1 + random.nextInt(most);
        h = 1 + random.nextInt(most);
        colors = most > 5 ? 1 : 1 + random.nextInt(3);
        due("start(" + w + ", " + h + ", " + colors + ")", fast.start(w, h, colors), slow.start(w, h, colors));
    }

    /** Mostly a number from 0 to below - 1, now and then one outside. */
    private int number(int below) {
        int chance = random.nextInt(60);
        return chance == 0 ? -1 : chance == 1 ? below : chance == 2 ? strange() : random.nextInt(Math.max(1, below));
    }

    private int strange() {
        int[] numbers = {Integer.MIN_VALUE, Integer.MAX_VALUE, -2, 8, 9, 15, 16, 31, 32, 63, 64, 128, 1 << 30};
        return numbers[random.nextInt(numbers.length)];
    }

    private void step(int chance) {
        int x = number(w);
        int y = number(h);
        int line = number(w + h);
        if (chance < 1) {
            if (random.nextInt(2) == 0) {
                begin();
            } else {
                due("start", fast.start(9, 1, 1), slow.start(9, 1, 1));
                due("start", fast.start(1, 0, 1), slow.start(1, 0, 1));
                due("start", fast.start(1, 1, 4), slow.start(1, 1, 4));
            }
        } else if (chance < 18) {
            int length = 1 + number(3);
            int color = 1 + number(colors);
            due("addBlock(" + line + ", " + length + ", " + color + ")", fast.addBlock(line, length, color),
                    slow.addBlock(line, length, color));
        } else if (chance < 21) {
            boolean has = random.nextBoolean();
            due("setClue(" + line + ", " + has + ")", fast.setClue(line, has), slow.setClue(line, has));
        } else if (chance < 24) {
            int what = number(5);
            due("line(" + line + ", " + what + ")", fast.line(line, what), slow.line(line, what));
        } else if (chance < 28) {
            int block = number(3);
            int what = number(4);
            due("block(" + line + ", " + block + ", " + what + ")", fast.block(line, block, what),
                    slow.block(line, block, what));
        } else if (chance < 36) {
            int width = 1 + number(w);
            int height = 1 + number(h);
            int color = number(colors + 1);
            due("paint(" + x + ", " + y + ", " + width + ", " + height + ", " + color + ")",
                    fast.paint(x, y, width, height, color), slow.paint(x, y, width, height, color));
        } else if (chance < 41) {
            scatter();
            due("takeClues()", fast.takeClues(), slow.takeClues());
        } else if (chance < 43) {
            due("picture(" + x + ", " + y + ")", fast.picture(x, y), slow.picture(x, y));
        } else if (chance < 50) {
            typeText();
            due("load()", fast.load(), slow.load());
        } else if (chance < 52) {
            due("clear()", fast.clear(), slow.clear());
        } else {
            stepOnMarks(chance, x, y);
        }
    }

    private void stepOnMarks(int chance, int x, int y) {
        if (chance < 57) {
            int which = 1 + number((1 << (colors + 1)) - 1);
            due("setMark(" + x + ", " + y + ", " + which + ")", fast.setMark(x, y, which), slow.setMark(x, y, which));
        } else if (chance < 58) {
            due("mark(" + x + ", " + y + ")", fast.mark(x, y), slow.mark(x, y));
        } else if (chance < 60) {
            due("clearMarks()", fast.clearMarks(), slow.clearMarks());
        } else if (chance < 66) {
            int level = random.nextInt(5);
            due("narrow(" + level + ")", fast.narrow(level), slow.narrow(level));
        } else if (chance < 71) {
            int color = number(colors + 1);
            due("trial(" + x + ", " + y + ", " + color + ")", fast.trial(x, y, color), slow.trial(x, y, color));
        } else if (chance < 75) {
            int limit = random.nextInt(101);
            due("solutions(" + limit + ")", fast.solutions(limit), slow.solutions(limit));
        } else if (chance < 79) {
            due("solve()", fast.solve(), slow.solve());
        } else if (chance < 84) {
            due("difficulty()", fast.difficulty(), slow.difficulty());
        } else if (chance < 85) {
            due("mistakes()", fast.mistakes(), slow.mistakes());
        } else if (chance < 90) {
            due("hint()", fast.hint(), slow.hint());
        } else if (chance < 91) {
            int what = number(5);
            due("hinted(" + what + ")", fast.hinted(what), slow.hinted(what));
        } else if (chance < 94) {
            due("takeHint()", fast.takeHint(), slow.takeHint());
        } else if (chance < 98) {
            due("undo()", fast.undo(), slow.undo());
        } else {
            int what = number(11);
            due("count(" + what + ")", fast.count(what), slow.count(what));
        }
    }

    private void scatter() {
        int cells = random.nextInt(w * h + 1);
        for (int i = 0; i < cells; i++) {
            int x = random.nextInt(w);
            int y = random.nextInt(h);
            int color = random.nextInt(colors + 1);
            due("paint(" + x + ", " + y + ", 1, 1, " + color + ")", fast.paint(x, y, 1, 1, color),
                    slow.paint(x, y, 1, 1, color));
        }
    }

    /** Types a text that describes clues, often with a fault or two. */
    private void typeText() {
        StringBuilder text = new StringBuilder();
        for (int line = 0; line < w + h; line++) {
            text.append(line > 0 ? ";" : "");
            int kind = random.nextInt(6);
            if (kind == 0) {
                text.append(blanks()).append("any");
            } else if (kind == 1) {
                text.append(blanks()).append("none");
            } else {
                int blocks = 1 + random.nextInt(2);
                for (int b = 0; b < blocks; b++) {
                    text.append(blanks()).append((char) ('1' + random.nextInt(random.nextInt(3) + 1)));
                    if (random.nextInt(3) > 0) {
                        text.append(blanks()).append((char) ('a' + random.nextInt(colors)));
                    }
                }
            }
            text.append(blanks());
        }
        for (int faults = random.nextInt(3); faults > 0 && text.length() > 0; faults--) {
            String letters = "0123456789abcdyz;; A{`";
            char letter = letters.charAt(random.nextInt(letters.length()));
            int at = random.nextInt(text.length());
            int kind = random.nextInt(4);
            if (kind == 0) {
                text.setCharAt(at, letter);
            } else if (kind == 1) {
                text.deleteCharAt(at);
            } else if (kind == 2) {
                text.insert(at, letter);
            } else {
                text.append(letter);
            }
        }
        if (random.nextInt(3) > 0) {
            due("clear()", fast.clear(), slow.clear());
        }
        for (char letter : text.toString().toCharArray()) {
            due("type('" + letter + "')", fast.type(letter), slow.type(letter));
        }
    }

    private String blanks() {
        return random.nextInt(12) == 0 ? " " : "";
    }
}
