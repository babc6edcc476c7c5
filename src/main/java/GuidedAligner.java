import java.util.Arrays;

public final class GuidedAligner {
    private static final int MOST_WORDS = 5;
    private static final int MOST_LETTERS = 12;
    private static final int MOST_COLUMNS = MOST_WORDS * MOST_LETTERS;
    private static final int MOST_NODES = 2 * MOST_WORDS - 1;
    private static final int ALPHABET = 4;
    private static final char[] LETTERS = {'A', 'C', 'G', 'T'};
    private static final char GAP_SIGN = '-';
    private static final char NOTHING = ' ';
    private static final int GAP = -1;

    private static final int MOST_SCORE = 20;
    private static final int MOST_GAP_COST = 20;
    private static final int FAR = 1000;
    private static final int NO_PAIR = -1000000;
    private static final int[] EQUAL_WEIGHTS = {1, 1, 1, 1, 1};

    private static final int BOTH = 0;
    private static final int LEFT = 1;
    private static final int RIGHT = 2;

    // Polishing ends by itself, since every true turn raises the total: this is never reached.
    private static final int MOST_TURNS = 1000000;

    private final Row[] texts;
    private final Row typed;
    private final Costs costs;
    private final Merger merger;
    private final Tree tree;
    private Sheet layout;
    private Sheet trial;
    private int count;
    private boolean tuples;
    private boolean neighbours;
    private boolean weighing;
    private boolean laid;

    public GuidedAligner() {
        texts = new Row[MOST_WORDS];
        for (int i = 0; i < MOST_WORDS; i++) {
            texts[i] = new Row(MOST_LETTERS);
        }
        typed = new Row(MOST_LETTERS);
        costs = new Costs();
        merger = new Merger(costs);
        tree = new Tree();
        layout = new Sheet();
        trial = new Sheet();
    }

    public boolean type(char c) {
        int letter = letterOf(c);
        if (letter == GAP || typed.width >= MOST_LETTERS) {
            return false;
        }
        typed.cells[typed.width] = letter;
        typed.width++;
        return true;
    }

    public int end() {
        if (typed.width == 0 || count >= MOST_WORDS) {
            return -1;
        }
        texts[count].copy(typed);
        typed.width = 0;
        count++;
        laid = false;
        return count - 1;
    }

    public boolean score(int x, int y, int v) {
        if (x < 0 || x >= ALPHABET || y < 0 || y >= ALPHABET) {
            return false;
        }
        if (v < -MOST_SCORE || v > MOST_SCORE) {
            return false;
        }
        costs.scores[x * ALPHABET + y] = v;
        costs.scores[y * ALPHABET + x] = v;
        laid = false;
        return true;
    }

    public boolean gaps(int open, int extend) {
        if (open < 0 || open > MOST_GAP_COST || extend < 0 || extend > MOST_GAP_COST) {
            return false;
        }
        costs.open = open;
        costs.extend = extend;
        laid = false;
        return true;
    }

    public void settings(boolean tuples, boolean neighbours, boolean weighing) {
        this.tuples = tuples;
        this.neighbours = neighbours;
        this.weighing = weighing;
        laid = false;
    }

    public int words() {
        return count;
    }

    public int pair(int i, int j) {
        return areTwoWords(i, j) ? mergeOnTrial(i, j) : NO_PAIR;
    }

    public int distance(int i, int j) {
        if (!areTwoWords(i, j)) {
            return -1;
        }
        int shorter = Math.min(texts[i].width, texts[j].width);
        if (tuples) {
            return FAR - share(texts[i].tuplesSharedWith(texts[j]), shorter - 1);
        }
        mergeOnTrial(Math.min(i, j), Math.max(i, j));
        return FAR - share(trial.rows[i].sameLettersAs(trial.rows[j]), shorter);
    }

    public int align() {
        if (count == 0) {
            return -1;
        }
        tree.plant(count, neighbours);
        for (int i = 0; i < count; i++) {
            for (int j = i + 1; j < count; j++) {
                tree.setDistance(i, j, distance(i, j));
            }
        }
        tree.grow();
        tree.weigh(weighing);
        for (int i = 0; i < count; i++) {
            layout.rows[i].copy(texts[i]);
        }
        mergeUpTheTree();
        laid = true;
        return columns();
    }

    public int columns() {
        return laid ? layout.rows[0].width : 0;
    }

    public char at(int i, int k) {
        if (!isWord(i) || k < 0 || k >= columns()) {
            return NOTHING;
        }
        int cell = layout.rows[i].cells[k];
        return cell == GAP ? GAP_SIGN : LETTERS[cell];
    }

    public char mark(int k) {
        if (k < 0 || k >= columns()) {
            return NOTHING;
        }
        int most = layout.mostOfOneLetter(k, count);
        if (most == count) {
            return '*';
        }
        if (layout.allScoresPositive(k, count, costs)) {
            return ':';
        }
        return 2 * most > count ? '.' : NOTHING;
    }

    public int child(int node, int which) {
        if (!isInnerNode(node) || which < 0 || which > 1) {
            return -1;
        }
        return which == 0 ? tree.leftChild[node] : tree.rightChild[node];
    }

    public int worth(int node) {
        return isInnerNode(node) ? tree.mergeWorth[node] : 0;
    }

    public int weight(int i) {
        return laid && isWord(i) ? tree.weights[i] : 0;
    }

    public int total() {
        return laid ? layout.sumOverPairs(count, costs, tree.weights) : 0;
    }

    public boolean refine(int i) {
        if (!laid || !isWord(i) || count < 2) {
            return false;
        }
        int others = tree.wordsUnder[tree.nodes - 1] & ~(1 << i);
        trial.copyWithout(layout, others);
        trial.rows[i].copy(texts[i]);
        merger.unite(trial, others, 1 << i, tree.weights);
        if (trial.sumOverPairs(count, costs, tree.weights) <= total()) {
            return false;
        }
        Sheet old = layout;
        layout = trial;
        trial = old;
        return true;
    }

    public int polish() {
        if (!laid) {
            return -1;
        }
        int better = 0;
        int falseInTurn = 0;
        int row = 0;
        for (int turn = 0; turn < MOST_TURNS && falseInTurn < count; turn++) {
            if (refine(row)) {
                better++;
                falseInTurn = 0;
            } else {
                falseInTurn++;
            }
            row = row + 1 < count ? row + 1 : 0;
        }
        return better;
    }

    private static int letterOf(char c) {
        for (int x = 0; x < ALPHABET; x++) {
            if (LETTERS[x] == c) {
                return x;
            }
        }
        return GAP;
    }

    private static int share(int part, int whole) {
        return whole < 1 ? 0 : FAR * part / whole;
    }

    private boolean isWord(int i) {
        return i >= 0 && i < count;
    }

    private boolean areTwoWords(int i, int j) {
        return isWord(i) && isWord(j) && i != j;
    }

    private boolean isInnerNode(int node) {
        return laid && node >= count && node < tree.nodes;
    }

    private int mergeOnTrial(int i, int j) {
        trial.rows[i].copy(texts[i]);
        trial.rows[j].copy(texts[j]);
        return merger.unite(trial, 1 << i, 1 << j, EQUAL_WEIGHTS);
    }

    private void mergeUpTheTree() {
        for (int node = count; node < tree.nodes; node++) {
            int p = tree.wordsUnder[tree.leftChild[node]];
            int q = tree.wordsUnder[tree.rightChild[node]];
            tree.mergeWorth[node] = merger.unite(layout, p, q, tree.weights);
        }
    }

    private static boolean holds(int set, int word) {
        return (set >> word & 1) != 0;
    }

    private static final class Costs {
        final int[] scores = {
            5, -4, -4, -4,
            -4, 5, -4, -4,
            -4, -4, 5, -4,
            -4, -4, -4, 5};
        int open = 10;
        int extend = 1;
    }

    private static final class Row {
        final int[] cells;
        int width;

        Row(int room) {
            cells = new int[room];
        }

        void copy(Row other) {
            System.arraycopy(other.cells, 0, cells, 0, other.width);
            width = other.width;
        }

        int sameLettersAs(Row other) {
            int same = 0;
            for (int k = 0; k < width; k++) {
                if (cells[k] != GAP && cells[k] == other.cells[k]) {
                    same++;
                }
            }
            return same;
        }

        int tuplesSharedWith(Row other) {
            int shared = 0;
            for (int x = 0; x < ALPHABET; x++) {
                for (int y = 0; y < ALPHABET; y++) {
                    shared += Math.min(timesOfTuple(x, y), other.timesOfTuple(x, y));
                }
            }
            return shared;
        }

        int timesOfTuple(int x, int y) {
            int times = 0;
            for (int k = 1; k < width; k++) {
                if (cells[k - 1] == x && cells[k] == y) {
                    times++;
                }
            }
            return times;
        }

        // From the back, so that no cell is overwritten before it has moved.
        void spread(int[] steps, int stepCount, int gapStep) {
            int from = width - 1;
            for (int k = stepCount - 1; k >= 0; k--) {
                if (steps[k] == gapStep) {
                    cells[k] = GAP;
                } else {
                    cells[k] = cells[from];
                    from--;
                }
            }
            width = stepCount;
        }

        int scoreBeside(Row other, Costs costs) {
            int sum = 0;
            int last = BOTH;
            for (int k = 0; k < width; k++) {
                int x = cells[k];
                int y = other.cells[k];
                if (x == GAP && y == GAP) {
                    continue;
                }
                int step = x == GAP ? RIGHT : y == GAP ? LEFT : BOTH;
                if (step == BOTH) {
                    sum += costs.scores[x * ALPHABET + y];
                } else {
                    sum -= costs.extend + (step == last ? 0 : costs.open);
                }
                last = step;
            }
            return sum;
        }
    }

    // Row i is that of word i; groups have no word in common, so one sheet holds all groups of a tree.
    private static final class Sheet {
        final Row[] rows = new Row[MOST_WORDS];

        Sheet() {
            for (int i = 0; i < MOST_WORDS; i++) {
                rows[i] = new Row(MOST_COLUMNS);
            }
        }

        void copyWithout(Sheet other, int kept) {
            int width = 0;
            for (int k = 0; k < other.rows[0].width; k++) {
                if (!other.hasLetter(k, kept)) {
                    continue;
                }
                for (int i = 0; i < MOST_WORDS; i++) {
                    if (holds(kept, i)) {
                        rows[i].cells[width] = other.rows[i].cells[k];
                    }
                }
                width++;
            }
            for (int i = 0; i < MOST_WORDS; i++) {
                rows[i].width = width;
            }
        }

        boolean hasLetter(int k, int words) {
            for (int i = 0; i < MOST_WORDS; i++) {
                if (holds(words, i) && rows[i].cells[k] != GAP) {
                    return true;
                }
            }
            return false;
        }

        void spread(int words, int[] steps, int stepCount, int gapStep) {
            for (int i = 0; i < MOST_WORDS; i++) {
                if (holds(words, i)) {
                    rows[i].spread(steps, stepCount, gapStep);
                }
            }
        }

        int mostOfOneLetter(int k, int count) {
            int most = 0;
            for (int x = 0; x < ALPHABET; x++) {
                int times = 0;
                for (int i = 0; i < count; i++) {
                    if (rows[i].cells[k] == x) {
                        times++;
                    }
                }
                most = Math.max(most, times);
            }
            return most;
        }

        boolean allScoresPositive(int k, int count, Costs costs) {
            for (int i = 0; i < count; i++) {
                for (int j = 0; j < i; j++) {
                    int x = rows[i].cells[k];
                    int y = rows[j].cells[k];
                    if (x == GAP || y == GAP || costs.scores[x * ALPHABET + y] <= 0) {
                        return false;
                    }
                }
            }
            return true;
        }

        int sumOverPairs(int count, Costs costs, int[] weights) {
            int sum = 0;
            for (int i = 0; i < count; i++) {
                for (int j = i + 1; j < count; j++) {
                    sum += weights[i] * weights[j] * rows[i].scoreBeside(rows[j], costs);
                }
            }
            return sum;
        }
    }

    // What a merge needs to know of one group: the weights of its letters, column by column.
    private static final class Side {
        // A merge leaves at least one word to the other side.
        static final int ROOM = MOST_COLUMNS - MOST_LETTERS;

        final int[] ofLetter = new int[ROOM * ALPHABET];
        final int[] present = new int[ROOM];
        int whole;
        int width;

        void read(Sheet sheet, int words, int[] weights) {
            Arrays.fill(ofLetter, 0);
            Arrays.fill(present, 0);
            whole = 0;
            for (int i = 0; i < MOST_WORDS; i++) {
                if (holds(words, i)) {
                    readRow(sheet.rows[i], weights[i]);
                }
            }
        }

        void readRow(Row row, int weight) {
            whole += weight;
            width = row.width;
            for (int k = 0; k < width; k++) {
                if (row.cells[k] != GAP) {
                    ofLetter[k * ALPHABET + row.cells[k]] += weight;
                    present[k] += weight;
                }
            }
        }
    }

    private static final class Merger {
        // Far below every worth, and far enough above the least int to take costs off it.
        static final int NEVER = -1000000000;
        // Two words beside three, each side with its end: no split of five words has more.
        static final int ROOM = (2 * MOST_LETTERS + 1) * (3 * MOST_LETTERS + 1);

        final Costs costs;
        final Side p = new Side();
        final Side q = new Side();
        // By the step before, then the place: the greatest worth of all steps from there on.
        final int[][] best = new int[3][ROOM];
        final int[] steps = new int[MOST_COLUMNS];
        int stepCount;
        int opening;
        int withBoth;
        int withLeft;
        int withRight;

        Merger(Costs costs) {
            this.costs = costs;
        }

        int unite(Sheet sheet, int wordsOfP, int wordsOfQ, int[] weights) {
            p.read(sheet, wordsOfP, weights);
            q.read(sheet, wordsOfQ, weights);
            opening = costs.open * p.whole * q.whole;
            for (int i = p.width; i >= 0; i--) {
                for (int j = q.width; j >= 0; j--) {
                    fill(i, j);
                }
            }
            walk();
            sheet.spread(wordsOfP, steps, stepCount, RIGHT);
            sheet.spread(wordsOfQ, steps, stepCount, LEFT);
            return best[BOTH][0];
        }

        void fill(int i, int j) {
            boolean atEnd = i == p.width && j == q.width;
            look(i, j);
            for (int last = BOTH; last <= RIGHT; last++) {
                best[last][place(i, j)] = atEnd ? 0 : worthAfter(last, choose(last));
            }
        }

        // Best worths are known from the end, so choosing by rank at every step from the
        // start gives, of all best merges, the one that the document prefers.
        void walk() {
            int i = 0;
            int j = 0;
            int last = BOTH;
            stepCount = 0;
            while (stepCount < MOST_COLUMNS && (i < p.width || j < q.width)) {
                look(i, j);
                last = choose(last);
                steps[stepCount] = last;
                stepCount++;
                i += last == RIGHT ? 0 : 1;
                j += last == LEFT ? 0 : 1;
            }
        }

        void look(int i, int j) {
            boolean hasLeft = i < p.width;
            boolean hasRight = j < q.width;
            withBoth = NEVER;
            withLeft = NEVER;
            withRight = NEVER;
            if (hasLeft && hasRight) {
                withBoth = best[BOTH][place(i + 1, j + 1)] + match(i, j);
            }
            if (hasLeft) {
                withLeft = best[LEFT][place(i + 1, j)] - costs.extend * p.present[i] * q.whole;
            }
            if (hasRight) {
                withRight = best[RIGHT][place(i, j + 1)] - costs.extend * q.present[j] * p.whole;
            }
        }

        int choose(int last) {
            int left = worthAfter(last, LEFT);
            int right = worthAfter(last, RIGHT);
            if (withBoth >= left && withBoth >= right) {
                return BOTH;
            }
            return left >= right ? LEFT : RIGHT;
        }

        int worthAfter(int last, int step) {
            if (step == BOTH) {
                return withBoth;
            }
            int rest = step == LEFT ? withLeft : withRight;
            return step == last ? rest : rest - opening;
        }

        int match(int i, int j) {
            int sum = 0;
            for (int x = 0; x < ALPHABET; x++) {
                int ofX = p.ofLetter[i * ALPHABET + x];
                for (int y = 0; ofX != 0 && y < ALPHABET; y++) {
                    sum += ofX * q.ofLetter[j * ALPHABET + y] * costs.scores[x * ALPHABET + y];
                }
            }
            return sum;
        }

        int place(int i, int j) {
            return i * (q.width + 1) + j;
        }
    }

    private static final class Tree {
        // Three new nodes can halve a span before only two nodes are left: eight keeps it whole.
        static final int SPAN_OF_ONE = 8;
        static final int HEIGHT_OF_ONE = 100;

        final int[] leftChild = new int[MOST_NODES];
        final int[] rightChild = new int[MOST_NODES];
        final int[] mergeWorth = new int[MOST_NODES];
        final int[] wordsUnder = new int[MOST_NODES];
        final int[] sizes = new int[MOST_NODES];
        final int[] heights = new int[MOST_NODES];
        final int[] parents = new int[MOST_NODES];
        final int[] weights = new int[MOST_WORDS];
        // The span of two nodes with NEIGHBOURS, else the sum of their words' distances.
        final int[][] between = new int[MOST_NODES][MOST_NODES];
        int leaves;
        int nodes;
        boolean bySpans;

        void plant(int words, boolean neighbours) {
            bySpans = neighbours;
            leaves = words;
            nodes = words;
            for (int i = 0; i < words; i++) {
                wordsUnder[i] = 1 << i;
                sizes[i] = 1;
                heights[i] = 0;
                parents[i] = -1;
            }
        }

        void setDistance(int i, int j, int distance) {
            setBetween(i, j, bySpans ? SPAN_OF_ONE * distance : distance);
        }

        void setBetween(int a, int b, int value) {
            between[a][b] = value;
            between[b][a] = value;
        }

        void grow() {
            for (int joins = 1; joins < leaves; joins++) {
                int left = -1;
                int right = -1;
                for (int a = 0; a < nodes; a++) {
                    for (int b = a + 1; b < nodes; b++) {
                        if (isOpen(a) && isOpen(b) && (left < 0 || isNearer(a, b, left, right))) {
                            left = a;
                            right = b;
                        }
                    }
                }
                if (left >= 0) {
                    join(left, right);
                }
            }
        }

        boolean isOpen(int node) {
            return parents[node] < 0;
        }

        // Values are fractions with denominators above 0: crosswise products compare them exactly.
        boolean isNearer(int a, int b, int left, int right) {
            return numerator(a, b) * denominator(left, right)
                < numerator(left, right) * denominator(a, b);
        }

        int numerator(int a, int b) {
            if (!bySpans) {
                return between[a][b];
            }
            int open = 0;
            int spans = 0;
            for (int node = 0; node < nodes; node++) {
                if (isOpen(node)) {
                    open++;
                    spans += node == a ? 0 : between[a][node];
                    spans += node == b ? 0 : between[b][node];
                }
            }
            return (open - 2) * between[a][b] - spans;
        }

        int denominator(int a, int b) {
            return bySpans ? 1 : sizes[a] * sizes[b];
        }

        void join(int left, int right) {
            int made = nodes;
            leftChild[made] = left;
            rightChild[made] = right;
            wordsUnder[made] = wordsUnder[left] | wordsUnder[right];
            sizes[made] = sizes[left] + sizes[right];
            heights[made] = numerator(left, right) / (HEIGHT_OF_ONE * denominator(left, right));
            parents[made] = -1;
            parents[left] = made;
            parents[right] = made;
            for (int node = 0; node < made; node++) {
                if (isOpen(node)) {
                    setBetween(made, node, betweenJoined(left, right, node));
                }
            }
            nodes++;
        }

        int betweenJoined(int left, int right, int other) {
            int both = between[left][other] + between[right][other];
            return bySpans ? (both - between[left][right]) / 2 : both;
        }

        void weigh(boolean weighing) {
            for (int i = 0; i < leaves; i++) {
                weights[i] = weighing && !bySpans ? 1 + climb(i) : 1;
            }
        }

        int climb(int word) {
            int sum = 0;
            for (int node = 0; node < nodes - 1; node++) {
                if (holds(wordsUnder[node], word)) {
                    sum += (heights[parents[node]] - heights[node]) / sizes[node];
                }
            }
            return sum;
        }
    }
}
