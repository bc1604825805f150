import java.util.Random;

/**
 * Promises 16, 17 and 22 to 24 for puzzles that fillings leave open, so that trials matter: pictures by chance (the same
 * ones each time), some of whose lines have no clue, compared with the slow model.
 */
public final class TrialsTest {
    private final PictureClues fast = new PictureClues();
    private final SlowClues slow = new SlowClues();
    private final Random random;
    private final String name;
    private final int width, height, colors;

    private TrialsTest(long seed) {
        random = new Random(seed);
        name = "seed " + seed + ": ";
        colors = 1 + random.nextInt(3);
        // The slow model takes long for great puzzles of many colors.
        int most = colors == 1 ? 6 : colors == 2 ? 5 : 4;
        width = most - random.nextInt(3);
        height = most - random.nextInt(3);
    }

    public static void main(String[] args) {
        int puzzles = args.length > 0 ? Integer.parseInt(args[0]) : 2500;
        long from = args.length > 1 ? Long.parseLong(args[1]) : 0;
        int levelThree = 0;
        for (long seed = from; seed < from + puzzles; seed++) {
            levelThree += new TrialsTest(seed).compare() ? 1 : 0;
        }
        Due.is("are there enough puzzles with hints of level 3? That", levelThree > puzzles / 30 ? 1 : 0, 1);
        Due.end();
    }

    private void due(String call, long got, long want) {
        Due.is(name + call, got, want);
    }

    /** Returns whether there was a hint of level 3. */
    private boolean compare() {
        begin();
        due("narrow(3)", fast.narrow(3), slow.narrow(3));
        due("digest() then", fast.digest(), slow.digest());
        if (fast.count(8) > 0) {
            due("undo()", fast.undo(), slow.undo());
        }
        due("narrow(2)", fast.narrow(2), slow.narrow(2));
        for (int i = 0; i < width * height; i++) {
            int color = random.nextInt(colors + 1);
            due("trial of cell " + i, fast.trial(i % width, i / width, color), slow.trial(i % width, i / width, color));
        }
        due("difficulty()", fast.difficulty(), slow.difficulty());
        return compareHints();
    }

    private void begin() {
        due("start()", fast.start(width, height, colors), slow.start(width, height, colors));
        int density = 20 + random.nextInt(60);
        for (int i = 0; i < width * height; i++) {
            int color = random.nextInt(100) < density ? 1 + random.nextInt(colors) : 0;
            due("paint()", fast.paint(i % width, i / width, 1, 1, color), slow.paint(i % width, i / width, 1, 1, color));
        }
        due("takeClues()", fast.takeClues(), slow.takeClues());
        int freeLines = random.nextInt(3);
        for (int i = 0; i < freeLines; i++) {
            int line = random.nextInt(width + height);
            due("setClue()", fast.setClue(line, false), slow.setClue(line, false));
        }
        if (random.nextInt(3) == 0) {
            int x = random.nextInt(width);
            int y = random.nextInt(height);
            int which = 1 + random.nextInt((2 << colors) - 1);
            due("setMark()", fast.setMark(x, y, which), slow.setMark(x, y, which));
        }
    }

    private boolean compareHints() {
        boolean levelThree = false;
        for (int i = 0; i < 30; i++) {
            int level = fast.hint();
            due("hint()", level, slow.hint());
            levelThree |= level == 3;
            if (level <= 0) {
                break;
            }
            for (int what = 0; what <= 4; what++) {
                due("hinted(" + what + ")", fast.hinted(what), slow.hinted(what));
            }
            due("takeHint()", fast.takeHint(), slow.takeHint());
        }
        due("digest() at the end", fast.digest(), slow.digest());
        return levelThree;
    }
}
