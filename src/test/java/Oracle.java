import java.util.ArrayList;
import java.util.HashMap;
import java.util.List;
import java.util.Map;
import java.util.TreeMap;
import java.util.TreeSet;

/** The document read word by word, without a thought of speed: what GuidedAligner is compared with. */
final class Oracle {
    static final String LETTERS = "ACGT";

    record Fraction(long top, long bottom) {
        int compare(Fraction other) {
            return Long.compare(top * other.bottom, other.top * bottom);
        }

        Fraction plus(Fraction other) {
            return new Fraction(top * other.bottom + other.top * bottom, bottom * other.bottom);
        }

        Fraction times(long n, long d) {
            return new Fraction(top * n, bottom * d);
        }
    }

    record Merged(long worth, String steps) {
        // The letters B, L, R stand for the steps because their order is the document's.
        boolean beats(Merged other) {
            if (other == null || worth != other.worth) {
                return other == null || worth > other.worth;
            }
            return steps.compareTo(other.steps) < 0;
        }
    }

    private final List<String> words = new ArrayList<>();
    private String typed = "";
    private final int[][] scores = new int[4][4];
    private int open = 10;
    private int extend = 1;
    private boolean tuples;
    private boolean neighbours;
    private boolean weighing;
    private TreeMap<Integer, String> layout;
    private List<TreeSet<Integer>> nodes;
    private int[][] children;
    private int[] parents;
    private long[] worths;
    private int[] weights;

    Oracle() {
        for (int x = 0; x < 4; x++) {
            for (int y = 0; y < 4; y++) {
                scores[x][y] = x == y ? 5 : -4;
            }
        }
    }

    boolean type(char c) {
        if (LETTERS.indexOf(c) < 0 || typed.length() == 12) {
            return false;
        }
        typed += c;
        return true;
    }

    int end() {
        if (typed.isEmpty() || words.size() == 5) {
            return -1;
        }
        words.add(typed);
        typed = "";
        layout = null;
        return words.size() - 1;
    }

    boolean score(int x, int y, int v) {
        if (x < 0 || x > 3 || y < 0 || y > 3 || v < -20 || v > 20) {
            return false;
        }
        scores[x][y] = v;
        scores[y][x] = v;
        layout = null;
        return true;
    }

    boolean gaps(int newOpen, int newExtend) {
        if (newOpen < 0 || newOpen > 20 || newExtend < 0 || newExtend > 20) {
            return false;
        }
        open = newOpen;
        extend = newExtend;
        layout = null;
        return true;
    }

    void settings(boolean t, boolean n, boolean w) {
        tuples = t;
        neighbours = n;
        weighing = w;
        layout = null;
    }

    int words() {
        return words.size();
    }

    int pair(int i, int j) {
        if (!two(i, j)) {
            return -1000000;
        }
        return (int) bestMerge(single(i), single(j), ones()).worth();
    }

    int distance(int i, int j) {
        if (!two(i, j)) {
            return -1;
        }
        int l = Math.min(words.get(i).length(), words.get(j).length());
        if (tuples) {
            return l == 1 ? 1000 : 1000 - 1000 * commonTuples(words.get(i), words.get(j)) / (l - 1);
        }
        TreeMap<Integer, String> p = single(Math.min(i, j));
        TreeMap<Integer, String> q = single(Math.max(i, j));
        TreeMap<Integer, String> both = carryOut(p, q, bestMerge(p, q, ones()).steps());
        int same = 0;
        for (int k = 0; k < both.get(i).length(); k++) {
            char c = both.get(i).charAt(k);
            same += c != '-' && c == both.get(j).charAt(k) ? 1 : 0;
        }
        return 1000 - 1000 * same / l;
    }

    int align() {
        if (words.isEmpty()) {
            return -1;
        }
        Fraction[] values = makeTree();
        int n = words.size();
        weights = ones();
        for (int i = 0; weighing && !neighbours && i < n; i++) {
            weights[i] = 1;
            for (int node = i; node != nodes.size() - 1; node = parents[node]) {
                long rise = height(values, parents[node]) - height(values, node);
                weights[i] += (int) (rise / nodes.get(node).size());
            }
        }
        List<TreeMap<Integer, String>> groups = new ArrayList<>();
        for (int node = 0; node < nodes.size(); node++) {
            if (node < n) {
                groups.add(single(node));
                continue;
            }
            TreeMap<Integer, String> p = groups.get(children[node][0]);
            TreeMap<Integer, String> q = groups.get(children[node][1]);
            Merged best = bestMerge(p, q, weights);
            worths[node] = best.worth();
            groups.add(carryOut(p, q, best.steps()));
        }
        layout = groups.get(groups.size() - 1);
        return columns();
    }

    int columns() {
        return layout == null ? 0 : layout.get(0).length();
    }

    char at(int i, int k) {
        return layout == null || !layout.containsKey(i) || k < 0 || k >= columns()
            ? ' ' : layout.get(i).charAt(k);
    }

    char mark(int k) {
        if (layout == null || k < 0 || k >= columns()) {
            return ' ';
        }
        String column = "";
        for (String row : layout.values()) {
            column += row.charAt(k);
        }
        boolean positive = column.indexOf('-') < 0;
        for (int i = 0; positive && i < column.length(); i++) {
            for (int j = i + 1; j < column.length(); j++) {
                positive &= scoreOf(column.charAt(i), column.charAt(j)) > 0;
            }
        }
        boolean all = false;
        boolean most = false;
        for (char c : LETTERS.toCharArray()) {
            int times = column.length() - column.replace("" + c, "").length();
            all |= times == column.length();
            most |= times > column.length() / 2.0;
        }
        return all ? '*' : positive ? ':' : most ? '.' : ' ';
    }

    int child(int node, int which) {
        return hasChildren(node) && (which == 0 || which == 1) ? children[node][which] : -1;
    }

    int worth(int node) {
        return hasChildren(node) ? (int) worths[node] : 0;
    }

    int weight(int i) {
        return layout != null && i >= 0 && i < words.size() ? weights[i] : 0;
    }

    int total() {
        return layout == null ? 0 : totalOf(layout);
    }

    boolean refine(int i) {
        if (layout == null || i < 0 || i >= words.size() || words.size() == 1) {
            return false;
        }
        TreeMap<Integer, String> others = new TreeMap<>(layout);
        others.remove(i);
        for (int k = columns() - 1; k >= 0; k--) {
            boolean onlyGaps = true;
            for (String row : others.values()) {
                onlyGaps &= row.charAt(k) == '-';
            }
            if (onlyGaps) {
                int column = k;
                others.replaceAll((word, row) -> row.substring(0, column) + row.substring(column + 1));
            }
        }
        TreeMap<Integer, String> q = single(i);
        TreeMap<Integer, String> made = carryOut(others, q, bestMerge(others, q, weights).steps());
        if (totalOf(made) <= totalOf(layout)) {
            return false;
        }
        layout = made;
        return true;
    }

    int polish() {
        if (layout == null) {
            return -1;
        }
        int times = 0;
        int quiet = 0;
        for (int row = 0; quiet < words.size(); row = (row + 1) % words.size()) {
            boolean better = refine(row);
            times += better ? 1 : 0;
            quiet = better ? 0 : quiet + 1;
        }
        return times;
    }

    private boolean two(int i, int j) {
        return i >= 0 && j >= 0 && i < words.size() && j < words.size() && i != j;
    }

    private boolean hasChildren(int node) {
        return layout != null && node >= words.size() && node < nodes.size();
    }

    private static int[] ones() {
        return new int[] {1, 1, 1, 1, 1};
    }

    private TreeMap<Integer, String> single(int i) {
        TreeMap<Integer, String> group = new TreeMap<>();
        group.put(i, words.get(i));
        return group;
    }

    private int scoreOf(char a, char b) {
        return scores[LETTERS.indexOf(a)][LETTERS.indexOf(b)];
    }

    private static int commonTuples(String a, String b) {
        int sum = 0;
        for (char x : LETTERS.toCharArray()) {
            for (char y : LETTERS.toCharArray()) {
                sum += Math.min(occurrences(a, "" + x + y), occurrences(b, "" + x + y));
            }
        }
        return sum;
    }

    private static int occurrences(String text, String part) {
        int times = 0;
        for (int k = 0; k < text.length(); k++) {
            times += text.startsWith(part, k) ? 1 : 0;
        }
        return times;
    }

    private Merged bestMerge(TreeMap<Integer, String> p, TreeMap<Integer, String> q, int[] w) {
        int m = p.firstEntry().getValue().length();
        int n = q.firstEntry().getValue().length();
        Merged best = bestRest(p, q, w, "" , new HashMap<>(), 0, 0);
        if (m + n <= 7) {
            Merged byHand = null;
            for (String steps : allMerges(m, n)) {
                Merged one = new Merged(worthOf(p, q, w, steps), steps);
                byHand = one.beats(byHand) ? one : byHand;
            }
            if (!best.equals(byHand)) {
                throw new IllegalStateException("the oracle is wrong: " + best + " for " + byHand);
            }
        }
        return best;
    }

    private Merged bestRest(TreeMap<Integer, String> p, TreeMap<Integer, String> q, int[] w,
            String last, Map<String, Merged> known, int i, int j) {
        int m = p.firstEntry().getValue().length();
        int n = q.firstEntry().getValue().length();
        if (i == m && j == n) {
            return new Merged(0, "");
        }
        String key = i + "," + j + "," + last;
        Merged best = known.get(key);
        if (best != null) {
            return best;
        }
        for (String step : new String[] {"B", "L", "R"}) {
            int nextI = step.equals("R") ? i : i + 1;
            int nextJ = step.equals("L") ? j : j + 1;
            if (nextI > m || nextJ > n) {
                continue;
            }
            Merged rest = bestRest(p, q, w, step, known, nextI, nextJ);
            Merged whole = new Merged(
                rest.worth() + worthOfStep(p, q, w, step, last, i, j), step + rest.steps());
            best = whole.beats(best) ? whole : best;
        }
        known.put(key, best);
        return best;
    }

    static List<String> allMerges(int m, int n) {
        List<String> all = new ArrayList<>();
        if (m == 0 && n == 0) {
            all.add("");
        }
        if (m > 0 && n > 0) {
            allMerges(m - 1, n - 1).forEach(rest -> all.add("B" + rest));
        }
        if (m > 0) {
            allMerges(m - 1, n).forEach(rest -> all.add("L" + rest));
        }
        if (n > 0) {
            allMerges(m, n - 1).forEach(rest -> all.add("R" + rest));
        }
        return all;
    }

    private long worthOf(TreeMap<Integer, String> p, TreeMap<Integer, String> q, int[] w, String steps) {
        long sum = 0;
        int i = 0;
        int j = 0;
        for (int k = 0; k < steps.length(); k++) {
            String last = k == 0 ? "" : steps.substring(k - 1, k);
            String step = steps.substring(k, k + 1);
            sum += worthOfStep(p, q, w, step, last, i, j);
            i += step.equals("R") ? 0 : 1;
            j += step.equals("L") ? 0 : 1;
        }
        return sum;
    }

    private long worthOfStep(TreeMap<Integer, String> p, TreeMap<Integer, String> q, int[] w,
            String step, String last, int i, int j) {
        long sum = 0;
        for (int a : p.keySet()) {
            for (int b : q.keySet()) {
                long product = (long) w[a] * w[b];
                if (step.equals("B")) {
                    char x = p.get(a).charAt(i);
                    char y = q.get(b).charAt(j);
                    sum += x == '-' || y == '-' ? 0 : product * scoreOf(x, y);
                    continue;
                }
                char taken = step.equals("L") ? p.get(a).charAt(i) : q.get(b).charAt(j);
                sum -= taken == '-' ? 0 : product * extend;
                sum -= step.equals(last) ? 0 : product * open;
            }
        }
        return sum;
    }

    private static TreeMap<Integer, String> carryOut(
            TreeMap<Integer, String> p, TreeMap<Integer, String> q, String steps) {
        TreeMap<Integer, String> made = new TreeMap<>();
        p.forEach((word, row) -> made.put(word, spread(row, steps, 'R')));
        q.forEach((word, row) -> made.put(word, spread(row, steps, 'L')));
        return made;
    }

    private static String spread(String row, String steps, char gapStep) {
        StringBuilder text = new StringBuilder();
        int from = 0;
        for (char step : steps.toCharArray()) {
            text.append(step == gapStep ? '-' : row.charAt(from++));
        }
        return text.toString();
    }

    private Fraction[] makeTree() {
        int n = words.size();
        nodes = new ArrayList<>();
        children = new int[2 * n][2];
        parents = new int[2 * n];
        worths = new long[2 * n];
        Fraction[] values = new Fraction[2 * n];
        List<Integer> free = new ArrayList<>();
        for (int i = 0; i < n; i++) {
            nodes.add(new TreeSet<>(List.of(i)));
            free.add(i);
        }
        while (free.size() > 1) {
            int made = nodes.size();
            for (int a : free) {
                for (int b : free) {
                    if (a >= b) {
                        continue;
                    }
                    Fraction value = neighbours ? neighbourValue(free, a, b) : average(a, b);
                    if (values[made] == null || value.compare(values[made]) < 0) {
                        values[made] = value;
                        children[made] = new int[] {a, b};
                    }
                }
            }
            TreeSet<Integer> under = new TreeSet<>();
            for (int which = 0; which < 2; which++) {
                under.addAll(nodes.get(children[made][which]));
                parents[children[made][which]] = made;
                free.remove((Integer) children[made][which]);
            }
            nodes.add(under);
            free.add(made);
        }
        return values;
    }

    private Fraction average(int a, int b) {
        long sum = 0;
        for (int i : nodes.get(a)) {
            for (int j : nodes.get(b)) {
                sum += distance(i, j);
            }
        }
        return new Fraction(sum, (long) nodes.get(a).size() * nodes.get(b).size());
    }

    private Fraction neighbourValue(List<Integer> free, int a, int b) {
        Fraction value = span(a, b).times(free.size() - 2, 1);
        for (int other : free) {
            value = other == a ? value : value.plus(span(a, other).times(-1, 1));
            value = other == b ? value : value.plus(span(b, other).times(-1, 1));
        }
        if (value.top() % value.bottom() != 0) {
            throw new IllegalStateException("the oracle met a broken span");
        }
        return new Fraction(value.top() / value.bottom(), 1);
    }

    private Fraction span(int a, int b) {
        int n = words.size();
        if (a < n && b < n) {
            return new Fraction(8L * distance(a, b), 1);
        }
        // The later one of the two was made when the other one was there already.
        int made = Math.max(a, b);
        int other = Math.min(a, b);
        int f = children[made][0];
        int g = children[made][1];
        Fraction twice = span(other, f).plus(span(other, g)).plus(span(f, g).times(-1, 1)).times(1, 2);
        return new Fraction(twice.top(), twice.bottom());
    }

    private long height(Fraction[] values, int node) {
        return values[node] == null ? 0 : values[node].top() / (values[node].bottom() * 100);
    }

    private int totalOf(TreeMap<Integer, String> rows) {
        int sum = 0;
        for (int a : rows.keySet()) {
            for (int b : rows.keySet()) {
                if (a < b) {
                    sum += weights[a] * weights[b] * totalOfPair(rows.get(a), rows.get(b));
                }
            }
        }
        return sum;
    }

    private int totalOfPair(String a, String b) {
        StringBuilder kinds = new StringBuilder();
        int sum = 0;
        for (int k = 0; k < a.length(); k++) {
            char x = a.charAt(k);
            char y = b.charAt(k);
            if (x == '-' && y == '-') {
                continue;
            }
            kinds.append(x == '-' ? 'a' : y == '-' ? 'b' : '.');
            sum += x == '-' || y == '-' ? 0 : scoreOf(x, y);
        }
        for (String kind : new String[] {"a", "b"}) {
            for (String run : kinds.toString().split("[^" + kind + "]+")) {
                sum -= run.isEmpty() ? 0 : open + extend * run.length();
            }
        }
        return sum;
    }
}
