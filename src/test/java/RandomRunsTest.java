import java.util.Random;

/** Long runs of calls, always the same ones, on a GuidedAligner and on the Oracle: every answer must agree. */
public final class RandomRunsTest {
    private static final int RUNS = 1000;
    // What an object answers after so many calls is not promised.
    private static final int MOST_CALLS = 512;
    private static final int MOST_CALLS_FOR_A_WORD = 13;
    private static int wrong = 0;

    private final int run;
    private final Random random;
    private final GuidedAligner given = new GuidedAligner();
    private final Oracle due = new Oracle();
    private final int longest;
    private final int letters;
    private final int scoreSpan;
    private final int gapSpan;
    private final StringBuilder story = new StringBuilder();
    private int calls = 0;

    private RandomRunsTest(int run) {
        this.run = run;
        random = new Random(run);
        // Narrow spans make ties, and few letters make words alike.
        longest = new int[] {2, 4, 7, 12}[random.nextInt(4)];
        letters = 1 + random.nextInt(4);
        scoreSpan = new int[] {1, 3, 20}[random.nextInt(3)];
        gapSpan = new int[] {0, 2, 10, 20}[random.nextInt(4)];
    }

    public static void main(String[] args) {
        int refined = 0;
        for (int run = 0; run < RUNS && wrong == 0; run++) {
            refined += new RandomRunsTest(run).go();
        }
        if (refined < 500) {
            wrong++;
            System.out.println("too few rows were refined for a test: " + refined);
        }
        System.out.println(wrong == 0 ? "all answers are as due, " + refined + " refinings" : wrong + " wrong");
        if (wrong != 0) {
            System.exit(1);
        }
    }

    private int go() {
        int refined = 0;
        if (random.nextInt(3) > 0) {
            newCosts();
        }
        newSettings();
        for (int n = random.nextInt(6); n > 0; n--) {
            newWord();
        }
        while (calls + MOST_CALLS_FOR_A_WORD <= MOST_CALLS && wrong == 0) {
            refined += oneCall();
            if (random.nextInt(4) == 0) {
                compareLayout();
            }
            for (int n = random.nextInt(6); n > 0 && calls < MOST_CALLS; n--) {
                ask();
            }
        }
        while (calls < MOST_CALLS && wrong == 0) {
            ask();
        }
        return refined;
    }

    private int oneCall() {
        switch (random.nextInt(16)) {
            case 0 -> newWord();
            case 1 -> newScore();
            case 2 -> {
                int open = random.nextInt(gapSpan + 1) - random.nextInt(2);
                int extend = random.nextInt(gapSpan + 1) - random.nextInt(2);
                check("gaps " + open + " " + extend, given.gaps(open, extend), due.gaps(open, extend));
            }
            case 3 -> newSettings();
            case 4 -> {
                char c = (char) random.nextInt(400);
                check("type " + (int) c, given.type(c), due.type(c));
            }
            case 5 -> check("end", given.end(), due.end());
            case 6, 7, 8 -> {
                int times = due.polish();
                check("polish", given.polish(), times);
                return Math.max(times, 0);
            }
            case 9, 10, 11 -> {
                int row = random.nextInt(7) - 1;
                boolean better = due.refine(row);
                check("refine " + row, given.refine(row), better);
                return better ? 1 : 0;
            }
            default -> check("align", given.align(), due.align());
        }
        return 0;
    }

    private void newWord() {
        for (int n = 1 + random.nextInt(longest); n > 0; n--) {
            char c = Oracle.LETTERS.charAt(random.nextInt(letters));
            check("type " + c, given.type(c), due.type(c));
        }
        check("end", given.end(), due.end());
    }

    private void newScore() {
        int x = random.nextInt(6) - 1;
        int y = random.nextInt(6) - 1;
        int v = random.nextInt(2 * scoreSpan + 3) - scoreSpan - 1;
        check("score " + x + " " + y + " " + v, given.score(x, y, v), due.score(x, y, v));
    }

    private void newCosts() {
        for (int n = 0; n < 12; n++) {
            newScore();
        }
        int open = random.nextInt(gapSpan + 1);
        int extend = random.nextInt(gapSpan + 1);
        check("gaps " + open + " " + extend, given.gaps(open, extend), due.gaps(open, extend));
    }

    private void newSettings() {
        boolean t = random.nextBoolean();
        boolean n = random.nextInt(3) == 0;
        boolean w = random.nextBoolean();
        calls++;
        story.append("settings ").append(t).append(n).append(w).append('\n');
        given.settings(t, n, w);
        due.settings(t, n, w);
    }

    private void ask() {
        int i = random.nextInt(7) - 1;
        int j = random.nextInt(7) - 1;
        int k = random.nextInt(due.columns() + 2) - 1;
        int node = random.nextInt(11) - 1;
        int which = random.nextInt(4) - 1;
        switch (random.nextInt(12)) {
            case 0 -> check("words", given.words(), due.words());
            case 1 -> check("columns", given.columns(), due.columns());
            case 2, 3 -> check("total", given.total(), due.total());
            case 4 -> check("weight " + i, given.weight(i), due.weight(i));
            case 5 -> check("pair " + i + " " + j, given.pair(i, j), due.pair(i, j));
            case 6, 7 -> check("distance " + i + " " + j, given.distance(i, j), due.distance(i, j));
            case 8 -> check("at " + i + " " + k, given.at(i, k), due.at(i, k));
            case 9 -> check("mark " + k, given.mark(k), due.mark(k));
            case 10 -> check("worth " + node, given.worth(node), due.worth(node));
            default -> check("child " + node + " " + which, given.child(node, which), due.child(node, which));
        }
    }

    private void compareLayout() {
        int columns = due.columns();
        int words = due.words();
        int needed = columns * (words + 1) + 5 * words;
        if (columns == 0 || calls + needed > MOST_CALLS) {
            return;
        }
        for (int k = 0; k < columns; k++) {
            check("mark " + k, given.mark(k), due.mark(k));
            for (int i = 0; i < words; i++) {
                check("at " + i + " " + k, given.at(i, k), due.at(i, k));
            }
        }
        for (int i = 0; i < words; i++) {
            check("weight " + i, given.weight(i), due.weight(i));
        }
        for (int node = words; node < 2 * words - 1; node++) {
            check("worth " + node, given.worth(node), due.worth(node));
            check("child " + node + " 0", given.child(node, 0), due.child(node, 0));
            check("child " + node + " 1", given.child(node, 1), due.child(node, 1));
        }
    }

    private void check(String call, boolean got, boolean want) {
        check(call, got ? 1 : 0, want ? 1 : 0);
    }

    private void check(String call, int got, int want) {
        calls++;
        if (!call.startsWith("at ") && !call.startsWith("child ") && !call.startsWith("mark ")) {
            story.append(call).append(" -> ").append(want).append('\n');
        }
        if (got != want) {
            wrong++;
            if (wrong == 1) {
                System.out.println("run " + run + ":\n" + story);
            }
            System.out.println("run " + run + ": " + call + " answered " + got + ", due is " + want);
        }
    }
}
