/** Each promise of the document by hand, as it is used; its edges are in PromiseEdgesTest and TermsEdgesTest. */
public final class PromisesTest extends Checks {
    public static void main(String[] args) {
        sentence("promise 1", PromisesTest::aNewObject);
        sentence("promise 2", PromisesTest::type);
        sentence("promise 3", PromisesTest::end);
        sentence("promise 4", PromisesTest::score);
        sentence("promise 5", PromisesTest::gaps);
        sentence("promise 6", PromisesTest::settings);
        sentence("promise 7", PromisesTest::words);
        sentence("promise 8", PromisesTest::pair);
        sentence("promise 9", PromisesTest::distanceByMerge);
        sentence("promise 9", PromisesTest::distanceByTuples);
        sentence("promise 10", PromisesTest::align);
        sentence("promise 10, the tree", PromisesTest::treeOfAverages);
        sentence("promise 10, the tree", PromisesTest::treeOfNeighbours);
        sentence("promise 11", PromisesTest::columns);
        sentence("promise 12", PromisesTest::at);
        sentence("promise 10, the best merge", PromisesTest::bestMergeAmongEquals);
        sentence("promise 13", PromisesTest::mark);
        sentence("promise 14", PromisesTest::child);
        sentence("promise 15", PromisesTest::worth);
        sentence("promise 16", PromisesTest::weight);
        sentence("promise 17", PromisesTest::total);
        sentence("promise 18", PromisesTest::refine);
        sentence("promise 19", PromisesTest::polish);
        finish();
    }

    private static void aNewObject() {
        GuidedAligner x = new GuidedAligner();
        same("words", x.words(), 0);
        same("columns", x.columns(), 0);
        same("no letters typed", x.end(), -1);
        same("align", x.align(), -1);
        noLayout(x);
        same("first scores, same letters", with("ACGT", "ACGT").pair(0, 1), 20);
        for (String two : new String[] {"AC", "AG", "AT", "CG", "CT", "GT"}) {
            same("first score " + two, with(two.substring(0, 1), two.substring(1)).pair(0, 1), -4);
        }
        same("first OPEN and EXTEND", with("AA", "A").pair(0, 1), 5 - 10 - 1);
        same("first EXTEND", with("AAA", "A").pair(0, 1), 5 - 10 - 2);
        GuidedAligner other = with("A", "C");
        other.align();
        same("objects share nothing", new GuidedAligner().words(), 0);
    }

    private static void type() {
        GuidedAligner x = new GuidedAligner();
        for (char c : "acgtBU- *0\n\u0141\uFF21".toCharArray()) {
            same("type " + (int) c, x.type(c), false);
        }
        same("nothing was typed", x.end(), -1);
        for (char c : "TGCATGCATGCA".toCharArray()) {
            same("type " + c, x.type(c), true);
        }
        same("a 13th letter", x.type('A'), false);
        same("end", x.end(), 0);
        same("the next word", x.type('A'), true);
        x.align();
        text("the letters as typed", rows(x), "TGCATGCATGCA");
        same("type with a layout", x.type('C'), true);
        text("the layout stays", rows(x), "TGCATGCATGCA");
        same("type, refused, with a layout", x.type('x'), false);
        text("the layout stays when refused", rows(x), "TGCATGCATGCA");
        same("the typed letters stay", x.end(), 1);
        x.align();
        same("they are two", rows(x).replace("-", "").length(), 12 + 1 + 2);
    }

    private static void end() {
        GuidedAligner x = new GuidedAligner();
        for (int n = 0; n < 5; n++) {
            x.type('A');
            same("number", x.end(), n);
            same("nothing typed", x.end(), -1);
            same("words", x.words(), n + 1);
        }
        x.align();
        for (int n = 0; n < 3; n++) {
            same("type with five words", x.type('C'), true);
        }
        same("a sixth word", x.end(), -1);
        same("words", x.words(), 5);
        text("the layout stays", rows(x), "A A A A A");
        for (int n = 0; n < 9; n++) {
            same("the typed letters stay", x.type('C'), true);
        }
        same("they are twelve", x.type('C'), false);

        GuidedAligner y = with("A");
        y.align();
        same("nothing typed", y.end(), -1);
        same("layout and tree stay", y.columns() + y.weight(0), 2);
        y.type('A');
        same("end", y.end(), 1);
        noLayout(y);
    }

    private static void score() {
        GuidedAligner x = with("A", "C");
        same("to 20", x.score(0, 1, 20), true);
        same("20", x.pair(0, 1), 20);
        same("to -20", x.score(1, 0, -20), true);
        same("-20 both ways", x.pair(0, 1) + 100 * x.pair(1, 0), -2020);
        x.align();
        for (int bad : new int[] {-1, 4, LEAST, GREATEST}) {
            same("x " + bad, x.score(bad, 1, 0), false);
            same("y " + bad, x.score(1, bad, 0), false);
        }
        for (int bad : new int[] {-21, 21, LEAST, GREATEST}) {
            same("v " + bad, x.score(0, 1, bad), false);
        }
        same("refused: nothing changes", x.pair(0, 1), -20);
        same("refused: the layout stays", x.columns(), 1);
        same("the same score once more", x.score(0, 1, -20), true);
        noLayout(x);
        same("still that", x.pair(0, 1), -20);

        GuidedAligner y = with("A", "C", "G", "T");
        for (int a = 0; a < 4; a++) {
            for (int b = a + 1; b < 4; b++) {
                y.score(b, a, a * 4 + b);
            }
        }
        for (int a = 0; a < 4; a++) {
            for (int b = 0; b < 4; b++) {
                if (a != b) {
                    same("each its own", y.pair(a, b), Math.min(a, b) * 4 + Math.max(a, b));
                }
            }
        }
        GuidedAligner z = with("TT", "TT");
        z.score(3, 3, 7);
        same("a letter with itself", z.pair(0, 1), 14);
    }

    private static void gaps() {
        GuidedAligner x = with("AAAA", "A");
        same("gaps", x.gaps(3, 2), true);
        same("3 and 2", x.pair(0, 1), 5 - 3 - 6);
        same("gaps", x.gaps(0, 20), true);
        same("0 and 20", x.pair(0, 1), 5 - 60);
        same("gaps", x.gaps(20, 0), true);
        same("20 and 0", x.pair(0, 1), 5 - 20);
        x.align();
        for (int bad : new int[] {-1, 21, LEAST, GREATEST}) {
            same("open " + bad, x.gaps(bad, 0), false);
            same("extend " + bad, x.gaps(0, bad), false);
        }
        same("refused: nothing changes", x.pair(0, 1), 5 - 20);
        same("refused: the layout stays", x.columns(), 4);
        same("the same once more", x.gaps(20, 0), true);
        noLayout(x);
    }

    private static void settings() {
        GuidedAligner x = with("AAAA", "AAAA", "CCCC");
        x.align();
        same("WEIGHING off at first", x.weight(2), 1);
        x.settings(false, false, false);
        noLayout(x);
        x.settings(false, false, true);
        x.align();
        same("WEIGHING", x.weight(2), 11);
        x.settings(false, true, true);
        noLayout(x);
        x.align();
        same("WEIGHING with NEIGHBOURS", x.weight(2), 1);
        x.settings(false, false, false);
        x.align();
        same("all off again", x.weight(2), 1);
        GuidedAligner y = with("ACA", "CAC");
        same("TUPLES off at first", y.distance(0, 1), 1000);
        y.settings(true, false, false);
        same("TUPLES", y.distance(0, 1), 0);
        y.settings(false, true, true);
        same("TUPLES off", y.distance(0, 1), 1000);
    }

    private static void words() {
        same("three", with("A", "C", "ACGTACGTACGT").words(), 3);
        GuidedAligner x = with("A");
        x.type('C');
        same("a word not ended does not count", x.words(), 1);
        x.align();
        same("align changes nothing", x.words(), 1);
    }

    private static void pair() {
        GuidedAligner x = with("ACGTACGT", "ACGACGT", "A");
        same("one gap", x.pair(0, 1), 7 * 5 - 11);
        same("exchanged", x.pair(1, 0), 7 * 5 - 11);
        same("many gaps", x.pair(2, 0), 5 - 17);
        for (int bad : new int[] {-1, 3, 5, LEAST, GREATEST}) {
            same("no word i", x.pair(bad, 0), -1000000);
            same("no word j", x.pair(0, bad), -1000000);
        }
        same("the same", x.pair(1, 1), -1000000);
        same("no words", new GuidedAligner().pair(0, 1), -1000000);
        GuidedAligner y = with("AC", "CA");
        y.gaps(3, 1);
        same("LEFT behind RIGHT opens anew", y.pair(0, 1), 5 - 4 - 4);
        GuidedAligner z = with("AAAA", "AAAA", "CCCC");
        z.settings(false, false, true);
        z.align();
        same("weights do not count", z.pair(0, 2), -16);
        same("the layout stays", z.columns() + z.weight(0), 4 + 6);
    }

    private static void distanceByMerge() {
        GuidedAligner x = with("AAA", "ACC", "AAC", "A");
        same("one of three, rounded down", x.distance(0, 1), 1000 - 333);
        same("two of three, rounded down", x.distance(0, 2), 1000 - 666);
        same("of the shorter one", x.distance(0, 3), 0);
        for (int bad : new int[] {-1, 4, 5, LEAST, GREATEST}) {
            same("no word i", x.distance(bad, 0), -1);
            same("no word j", x.distance(0, bad), -1);
        }
        same("the same", x.distance(1, 1), -1);
        // Two best merges, with C under C or with A under G: a LEFT first takes from the lesser number.
        same("AC as P", twoBestMerges("AC", "CG").distance(0, 1), 500);
        same("AC as P, asked the other way", twoBestMerges("AC", "CG").distance(1, 0), 500);
        same("CG as P", twoBestMerges("CG", "AC").distance(0, 1), 1000);
        GuidedAligner y = with("AAAA", "AAAA", "CCCC");
        y.settings(false, false, true);
        y.align();
        same("distances leave the layout", y.distance(0, 2) + y.columns(), 1004);
    }

    private static GuidedAligner twoBestMerges(String first, String second) {
        GuidedAligner x = with(first, second);
        x.gaps(0, 0);
        x.score(1, 1, 20);
        x.score(0, 2, 20);
        x.score(0, 1, -20);
        x.score(1, 2, -20);
        return x;
    }

    private static void distanceByTuples() {
        GuidedAligner x = with("AAAA", "AAA", "CAAC", "A", "ACAC", "T");
        x.settings(true, false, false);
        same("the lesser number of AA", x.distance(0, 1), 0);
        same("one of two", x.distance(1, 2), 500);
        same("one of three, rounded down", x.distance(0, 2), 1000 - 333);
        same("one letter", x.distance(0, 3), 1000);
        same("CA and AC in this order", x.distance(2, 4), 1000 - 666);
        same("none", x.distance(1, 4), 1000);
        same("no word", x.distance(0, 5), -1);
        same("the same", x.distance(4, 4), -1);
        GuidedAligner y = with("A", "A");
        y.settings(true, false, false);
        same("both of one letter", y.distance(0, 1), 1000);
    }

    private static void align() {
        same("no word", new GuidedAligner().align(), -1);
        GuidedAligner x = with("ACGT");
        same("one word", x.align(), 4);
        text("its row", rows(x), "ACGT");
        GuidedAligner y = with("AAG", "CG", "CGG");
        same("three words", y.align(), 3);
        text("the layout", rows(y), "AAG CG- CGG");
        same("refined", y.polish(), 1);
        text("refined", rows(y), "AAG C-G CGG");
        same("made anew", y.align(), 3);
        text("made anew", rows(y), "AAG CG- CGG");
        GuidedAligner z = with("ACGTACGTACGT", "ACGTACGTACGT", "ACGTACGTACGT", "ACGTACGTACGT", "ACGTACGTACGT");
        same("five words of twelve", z.align(), 12);
        GuidedAligner w = with("AAAAAAAAAAAA", "CCCCCCCCCCCC", "GGGGGGGGGGGG", "TTTTTTTTTTTT", "ACGTACGTACGT");
        w.gaps(0, 0);
        same("many columns", w.align(), 48);
        forbid(w);
        w.gaps(0, 0);
        same("no two letters in one column", w.align(), 60);
    }

    private static void forbid(GuidedAligner x) {
        for (int a = 0; a < 4; a++) {
            for (int b = 0; b < 4; b++) {
                x.score(a, b, -1);
            }
        }
    }

    private static void treeOfAverages() {
        // All distances 0: the lesser left child first, then the lesser right child.
        treeIs(with("A", "A", "A", "A", "A"), "0,1 2,3 4,5 6,7");
        treeIs(with("AAAA", "CCCC", "AAAA", "GGGG"), "0,2 1,3 4,5");
        // 2 and 3 are at 0; 0 is nearer to them on average (250) than to 1 (500).
        treeIs(with("AAAA", "AACC", "AAAG", "AAAG"), "2,3 0,4 1,5");
        // 0 and 1 are at 0, 2 is at 500 from both, 3 at 1000 from all.
        treeIs(with("AAAAAAAAAA", "AAAAAAAAAA", "AAAAACCCCC", "GGGGGGGGGG"), "0,1 2,4 3,5");
        GuidedAligner x = longBranches();
        same("distance of 0 and 1", x.distance(0, 1), 417);
        same("distance of 0 and 2", x.distance(0, 2), 250);
        same("distance of 0 and 3", x.distance(0, 3), 500);
        same("distance of 1 and 2", x.distance(1, 2), 500);
        same("distance of 1 and 3", x.distance(1, 3), 750);
        same("distance of 2 and 3", x.distance(2, 3), 417);
        // {0, 2} is at (417 + 500) / 2 from 1 and at (500 + 417) / 2 from 3: the lesser left child.
        treeIs(x, "0,2 1,4 3,5");
    }

    private static void treeOfNeighbours() {
        GuidedAligner x = longBranches();
        x.settings(false, true, false);
        // 0 with 1 and 2 with 3 have 8 * (2 * 417 - 1167 - 1667), all others more; then all pairs are equal.
        treeIs(x, "0,1 2,3 4,5");
        // 0 with 1 first. Their node is at 1000, 333.5, 333.5 from 2, 3, 4: with these halves 2 goes with it
        // (1000 + 0 for the two pairs), without them it would go with 3 (667 + 333).
        GuidedAligner halves = with("CCCC", "CC", "AAAA", "ACCAAC", "ACCA");
        halves.settings(true, true, false);
        treeIs(halves, "0,1 2,5 3,4 6,7");
        GuidedAligner two = with("AC", "GT");
        two.settings(false, true, false);
        treeIs(two, "0,1");
        GuidedAligner one = with("AC");
        one.settings(false, true, true);
        treeIs(one, "");
    }

    /** Two short and two long branches: averages join the short ones, neighbours one of each. */
    private static GuidedAligner longBranches() {
        GuidedAligner x = with("ACAAAAAAAAAA", "AAGGGGAAAAAA", "TAAAAACAAAAA", "TAAAAAATTTTA");
        x.gaps(20, 20);
        return x;
    }

    private static void treeIs(GuidedAligner x, String want) {
        x.align();
        text("tree", tree(x), want);
    }

    private static void columns() {
        GuidedAligner x = with("ACGT", "AT");
        same("no layout yet", x.columns(), 0);
        x.align();
        same("after align", x.columns(), 4);
        x.gaps(10, 1);
        same("gone", x.columns(), 0);
        GuidedAligner y = with("CAC", "ACCA", "GG");
        same("align", y.align(), 5);
        same("refine", y.refine(1), true);
        same("less after refine", y.columns(), 4);
    }

    private static void at() {
        GuidedAligner x = with("ACGT", "AT");
        same("no layout yet", x.at(0, 0), ' ');
        x.align();
        text("the rows", rows(x), "ACGT A--T");
        for (int bad : new int[] {-1, 2, 5, LEAST, GREATEST}) {
            same("no row " + bad, x.at(bad, 0), ' ');
        }
        for (int bad : new int[] {-1, 4, 60, LEAST, GREATEST}) {
            same("no column " + bad, x.at(0, bad), ' ');
        }
        // The right child of the last node is word 0's group: rows bear the words' numbers all the same.
        GuidedAligner y = with("AAG", "CG", "AAG");
        y.align();
        text("rows by words", rows(y), "AAG C-G AAG");
    }

    private static void bestMergeAmongEquals() {
        GuidedAligner x = with("AA", "A");
        x.align();
        text("BOTH rather than LEFT", rows(x), "AA A-");
        GuidedAligner y = with("A", "AA");
        y.align();
        text("BOTH rather than RIGHT", rows(y), "A- AA");
        GuidedAligner z = with("A", "C");
        z.gaps(0, 0);
        z.align();
        text("LEFT rather than RIGHT", rows(z), "A- -C");
        z.score(0, 1, 0);
        z.align();
        text("BOTH of the same worth", rows(z), "A C");
        // Gaps in one row of P: EXTEND for the letters of the column alone, OPEN for all of the group.
        GuidedAligner w = with("AAAA", "AA", "CC");
        w.gaps(1, 1);
        w.align();
        same("worth of AAAA with AA", w.worth(3), 10 - 3);
        // CC, the lesser node, is P: its LEFT steps come first.
        text("CC, then AAAA and AA", rows(w), "--AAAA --AA-- CC----");
        same("worth of CC with both", w.worth(4), -2 * 2 - 1 * 2 - (2 + 2 + 1 + 1) - 1 * 2);
    }

    private static void mark() {
        GuidedAligner x = with("AACA", "AACC", "AGGC", "AGTG");
        x.gaps(20, 20);
        same("no layout yet", x.mark(0), ' ');
        x.align();
        text("rows", rows(x), "AACA AACC AGGC AGTG");
        text("all, half, half, half", marks(x), "*   ");
        GuidedAligner y = with("AAA", "AAC", "ACG");
        y.gaps(20, 20);
        y.align();
        text("all, two of three, one of three", marks(y), "*. ");
        y.score(0, 1, 1);
        y.align();
        text("none with itself is below 1", marks(y), "*: ");
        y.score(0, 1, 0);
        y.align();
        text("0 is not above 0", marks(y), "*. ");
        y.score(0, 1, 1);
        y.score(0, 0, -20);
        y.align();
        text("rows", rows(y), "AAA AAC ACG");
        text("the same letters, below 0", marks(y), "*. ");
        for (int bad : new int[] {-1, 3, 60, LEAST, GREATEST}) {
            same("no column " + bad, y.mark(bad), ' ');
        }
        GuidedAligner gap = with("ACT", "ACT", "AT", "AG");
        gap.align();
        text("rows", rows(gap), "ACT ACT A-T AG-");
        text("half beside a gap, three of four beside a gap", marks(gap), "* .");
        GuidedAligner one = with("ACT");
        one.score(0, 0, -1);
        one.align();
        text("one row", marks(one), "***");
        GuidedAligner some = with("ACT", "ACT", "AT");
        some.score(1, 1, 20);
        some.align();
        text("a gap, the others the same", marks(some), "*.*");
        GuidedAligner gaps = with("AT", "ACT", "AT");
        gaps.align();
        text("more than half are gaps", marks(gaps), "* *");
    }

    private static void child() {
        GuidedAligner x = with("CCCC", "AAAA", "AAAA");
        same("no tree yet", x.child(3, 0), -1);
        x.align();
        same("left", x.child(3, 0), 1);
        same("right", x.child(3, 1), 2);
        same("left of the last", x.child(4, 0), 0);
        same("right of the last", x.child(4, 1), 3);
        for (int bad : new int[] {-1, 0, 1, 2, 5, 9, LEAST, GREATEST}) {
            same("node " + bad, x.child(bad, 0), -1);
        }
        for (int bad : new int[] {-1, 2, LEAST, GREATEST}) {
            same("which " + bad, x.child(3, bad), -1);
        }
        x.settings(false, false, false);
        same("gone", x.child(3, 0), -1);
        GuidedAligner y = with("A");
        y.align();
        same("one word", y.child(1, 0), -1);
    }

    private static void worth() {
        GuidedAligner x = with("AAAA", "AAAA", "CCCC");
        same("no tree yet", x.worth(3), 0);
        x.align();
        same("worth", x.worth(3), 20);
        same("worth of the last", x.worth(4), 2 * -16);
        x.settings(false, false, true);
        same("gone", x.worth(3), 0);
        x.align();
        same("weighed", x.worth(3), 6 * 6 * 20);
        same("weighed, the last", x.worth(4), 11 * 12 * -16);
        for (int bad : new int[] {-1, 0, 2, 5, 9, LEAST, GREATEST}) {
            same("node " + bad, x.worth(bad), 0);
        }
        GuidedAligner y = with("AAG", "CG", "CGG");
        y.align();
        same("as made", y.worth(4), -11);
        same("refine", y.refine(1), true);
        same("as made, after refine", y.worth(4), -11);
        same("as made, after refine", y.worth(3), -1);
    }

    private static void weight() {
        GuidedAligner x = with("AAAAAAAAAA", "AAAAAAAAAA", "AAAAACCCCC", "GGGGGGGGGG");
        x.settings(false, false, true);
        same("no tree yet", x.weight(0), 0);
        x.align();
        // Heights 0, 5, 10 over 2, 3, 4 words; each part is rounded down by itself.
        same("word 0", x.weight(0), 1 + 5 / 2 + 5 / 3);
        same("word 1", x.weight(1), 1 + 5 / 2 + 5 / 3);
        same("word 2", x.weight(2), 1 + 5 + 5 / 3);
        same("word 3", x.weight(3), 1 + 10);
        for (int bad : new int[] {-1, 4, 5, LEAST, GREATEST}) {
            same("no word " + bad, x.weight(bad), 0);
        }
        x.refine(0);
        same("refine leaves it", x.weight(3), 11);
        x.type('A');
        x.end();
        same("gone", x.weight(0), 0);
        GuidedAligner y = with("AAA", "AAC", "ACC");
        y.settings(false, false, true);
        y.align();
        // 0 and 1 at 334: height 3; 2 at 667 and 334, 500.5 on average: height 5.
        same("height rounded down", y.weight(0), 1 + 3 + 1);
        same("height of an average", y.weight(2), 1 + 5);
        GuidedAligner one = with("ACGT");
        one.settings(false, false, true);
        one.align();
        same("one word", one.weight(0), 1);
        GuidedAligner off = with("AAAA", "CCCC");
        off.align();
        same("without WEIGHING", off.weight(0) + off.weight(1), 2);
        off.settings(true, true, true);
        off.align();
        same("with NEIGHBOURS", off.weight(0) + off.weight(1), 2);
        off.settings(true, false, true);
        off.align();
        same("with TUPLES", off.weight(0) + off.weight(1), 22);
    }

    private static void total() {
        GuidedAligner x = with("ACTGT", "AT", "ACGT");
        same("no layout yet", x.total(), 0);
        x.align();
        text("rows", rows(x), "ACTGT A---T AC-GT");
        // Rows 1 and 2 have one run of two, since the column between, both gaps, is left out.
        same("total", x.total(), (10 - 13) + (20 - 11) + (10 - 12));
        x.score(0, 0, 5);
        same("gone", x.total(), 0);
        GuidedAligner y = with("AAAA", "AAAA", "CCCC");
        y.settings(false, false, true);
        y.align();
        same("weighed", y.total(), 6 * 6 * 20 + 2 * 6 * 11 * -16);
        GuidedAligner z = with("A", "C");
        z.gaps(1, 0);
        z.align();
        text("rows", rows(z), "A- -C");
        same("a run in the one, then in the other", z.total(), -2);
        GuidedAligner one = with("ACGT");
        one.align();
        same("one row", one.total(), 0);
    }

    private static void refine() {
        GuidedAligner x = with("AAG", "CG", "CGG");
        same("no layout", x.refine(1), false);
        x.align();
        same("before", x.total(), -19 - 3 - 1);
        for (int bad : new int[] {-1, 3, 5, LEAST, GREATEST}) {
            same("no row " + bad, x.refine(bad), false);
        }
        same("row 0 is best already", x.refine(0), false);
        text("nothing changed", rows(x), "AAG CG- CGG");
        same("row 1", x.refine(1), true);
        text("better", rows(x), "AAG C-G CGG");
        same("after", x.total(), -10 - 3 - 1);
        same("the tree stays", x.child(3, 0) + 10 * x.child(4, 1), 31);
        same("row 1 again", x.refine(1), false);
        text("as before", rows(x), "AAG C-G CGG");
        GuidedAligner y = with("CAC", "ACCA", "GG");
        y.align();
        text("before", rows(y), "CAC-- -ACCA G---G");
        same("row 1 out: a column of gaps goes", y.refine(1), true);
        text("after", rows(y), "CAC- ACCA G--G");
        GuidedAligner z = with("GGA", "AA", "GG");
        z.gaps(1, 1);
        z.align();
        text("before", rows(z), "-GGA A--A -GG-");
        same("before", z.total(), 0 + 8 - 7);
        same("the others are P: LEFT takes of them first", z.refine(1), true);
        text("after", rows(z), "GGA- --AA GG--");
        same("after", z.total(), 0 + 8 - 6);
        GuidedAligner one = with("ACGT");
        one.align();
        same("one row", one.refine(0), false);
        same("it stays", one.columns(), 4);
        x.gaps(10, 1);
        same("layout gone", x.refine(1), false);
    }

    private static void polish() {
        same("no words", new GuidedAligner().polish(), -1);
        GuidedAligner x = with("AAG", "CG", "CGG");
        same("no layout", x.polish(), -1);
        x.align();
        same("once", x.polish(), 1);
        text("better", rows(x), "AAG C-G CGG");
        same("nothing more", x.polish(), 0);
        GuidedAligner one = with("ACGT");
        one.align();
        same("one row", one.polish(), 0);
        // Several rows are bettered here, so it goes round behind the last row.
        GuidedAligner y = with("ACACACAC", "CACACA", "GTGTGT", "ACGT", "T");
        y.settings(true, true, true);
        y.align();
        GuidedAligner byHand = with("ACACACAC", "CACACA", "GTGTGT", "ACGT", "T");
        byHand.settings(true, true, true);
        byHand.align();
        int times = 0;
        int quiet = 0;
        for (int turn = 0; quiet < 5; turn++) {
            boolean better = byHand.refine(turn % 5);
            times += better ? 1 : 0;
            quiet = better ? 0 : quiet + 1;
        }
        same("some", times > 1, true);
        same("as by hand", y.polish(), times);
        text("as by hand", rows(y), rows(byHand));
        y.settings(true, true, true);
        same("layout gone", y.polish(), -1);
    }
}
