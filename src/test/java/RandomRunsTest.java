import java.util.Random;

/** Long runs of calls, always the same ones, on a GuidedAligner and on the Oracle: every answer must agree. */
public final class RandomRunsTest {
    private static final int RUNS = 300;
    private static final int CALLS = 60;
    private static int wrong = 0;

    private final int run;
    private final Random random;
    private final GuidedAligner given = new GuidedAligner();
    private final Oracle due = new Oracle();
    private final int longest;
    private final int letters;
    private final int scoreSpan;
    private final int gapSpan;
    private final StringBuilder story = new StringBuilder();

    private RandomRunsTest(int run) {
        this.run = run;
        random = new Random(run);
        // Narrow spans make ties, and few letters make words alike.
        longest = new int[] {2, 4, 7, 12}[random.nextInt(4)];
        letters = 1 + random.nextInt(4);
        scoreSpan = new int[] {1, 3, 20}[random.nextInt(3)];
        gapSpan = new int[] {0, 2, 10, 20}[random.nextInt(4)];
    }

    public static void main(String[] args) {
        int refined = 0;
        for (int run = 0; run < RUNS && wrong == 0; run++) {
            refined += new RandomRunsTest(run).go();
        }
        if (refined < 100) {
            wrong++;
            System.out.println("too few rows were refined for a test: " + refined);
        }
        System.out.println(wrong == 0 ? "all answers are as due, " + refined + " refinings" : wrong + " wrong");
        if (wrong != 0) {
            System.exit(1);
        }
    }

    private int go() {
        int refined = 0;
        if (random.nextInt(3) > 0) {
            newCosts();
        }
        newSettings();
        for (int n = random.nextInt(6); n > 0; n--) {
            newWord();
        }
        compareAll();
        for (int call = 0; call < CALLS && wrong == 0; call++) {
            refined += oneCall();
            compareAll();
        }
        return refined;
    }

    private int oneCall() {
        switch (random.nextInt(16)) {
            case 0 -> newWord();
            case 1 -> newScore();
            case 2 -> {
                int open = random.nextInt(gapSpan + 1) - random.nextInt(2);
                int extend = random.nextInt(gapSpan + 1) - random.nextInt(2);
                check("gaps " + open + " " + extend, given.gaps(open, extend), due.gaps(open, extend));
            }
            case 3 -> newSettings();
            case 4 -> {
                char c = (char) random.nextInt(400);
                check("type " + (int) c, given.type(c), due.type(c));
            }
            case 5 -> check("end", given.end(), due.end());
            case 6, 7, 8 -> {
                int times = due.polish();
                check("polish", given.polish(), times);
                return Math.max(times, 0);
            }
            case 9, 10, 11 -> {
                int row = random.nextInt(7) - 1;
                boolean better = due.refine(row);
                check("refine " + row, given.refine(row), better);
                return better ? 1 : 0;
            }
            default -> check("align", given.align(), due.align());
        }
        return 0;
    }

    private void newWord() {
        for (int n = 1 + random.nextInt(longest); n > 0; n--) {
            char c = Oracle.LETTERS.charAt(random.nextInt(letters));
            check("type " + c, given.type(c), due.type(c));
        }
        check("end", given.end(), due.end());
    }

    private void newScore() {
        int x = random.nextInt(6) - 1;
        int y = random.nextInt(6) - 1;
        int v = random.nextInt(2 * scoreSpan + 3) - scoreSpan - 1;
        check("score " + x + " " + y + " " + v, given.score(x, y, v), due.score(x, y, v));
    }

    private void newCosts() {
        for (int n = 0; n < 12; n++) {
            newScore();
        }
        int open = random.nextInt(gapSpan + 1);
        int extend = random.nextInt(gapSpan + 1);
        check("gaps " + open + " " + extend, given.gaps(open, extend), due.gaps(open, extend));
    }

    private void newSettings() {
        boolean t = random.nextBoolean();
        boolean n = random.nextInt(3) == 0;
        boolean w = random.nextBoolean();
        story.append("settings ").append(t).append(n).append(w).append('\n');
        given.settings(t, n, w);
        due.settings(t, n, w);
    }

    private void compareAll() {
        check("words", given.words(), due.words());
        check("columns", given.columns(), due.columns());
        check("total", given.total(), due.total());
        for (int i = -1; i <= 5; i++) {
            check("weight " + i, given.weight(i), due.weight(i));
            for (int k = -1; k <= due.columns(); k++) {
                check("at " + i + " " + k, given.at(i, k), due.at(i, k));
            }
        }
        for (int i = -1; i <= 5; i++) {
            int j = random.nextInt(7) - 1;
            check("pair " + i + " " + j, given.pair(i, j), due.pair(i, j));
            check("distance " + i + " " + j, given.distance(i, j), due.distance(i, j));
        }
        for (int k = -1; k <= due.columns(); k++) {
            check("mark " + k, given.mark(k), due.mark(k));
        }
        for (int node = -1; node <= 9; node++) {
            check("worth " + node, given.worth(node), due.worth(node));
            for (int which = -1; which <= 2; which++) {
                check("child " + node + " " + which, given.child(node, which), due.child(node, which));
            }
        }
    }

    private void check(String call, boolean got, boolean want) {
        check(call, got ? 1 : 0, want ? 1 : 0);
    }

    private void check(String call, int got, int want) {
        if (!call.startsWith("at ") && !call.startsWith("child ") && !call.startsWith("mark ")) {
            story.append(call).append(" -> ").append(want).append('\n');
        }
        if (got != want) {
            wrong++;
            if (wrong == 1) {
                System.out.println("run " + run + ":\n" + story);
            }
            System.out.println("run " + run + ": " + call + " answered " + got + ", due is " + want);
        }
    }
}
