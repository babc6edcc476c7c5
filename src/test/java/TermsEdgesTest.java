import java.util.Random;
import java.util.function.Consumer;

/** Every sentence under 'What it is' and 'Terms' that names a boundary case, each with a test of its own. */
public final class TermsEdgesTest extends Checks {
    private static final String ALL_A = "AAAAAAAAAAAA";
    private static final String TWELVE = "GATTACAGATCT";

    public static void main(String[] args) {
        sentence("An object is used for at most 512 calls", TermsEdgesTest::fiveHundredAndTwelveCalls);
        words();
        merges();
        distances();
        trees();
        weightsAndTotals();
        changes();
        finish();
    }

    private static void words() {
        sentence("LETTERS are the characters A, C, G, T (numbers 0 .. 3)", TermsEdgesTest::letterNumbers);
        sentence("each has 1 to 12 letters", TermsEdgesTest::oneToTwelveLetters);
        sentence("the same both ways", TermsEdgesTest::scoresBothWays);
        sentence("at first 5 for a letter with itself, else -4", TermsEdgesTest::firstScores);
        sentence("OPEN and EXTEND are at first 10 and 1", TermsEdgesTest::firstGaps);
        sentence("SETTINGS: all off at first", TermsEdgesTest::firstSettings);
        sentence("no column has gaps only, a row without its gaps is the word", TermsEdgesTest::groups);
    }

    private static void merges() {
        sentence("BOTH: where both have a letter there", TermsEdgesTest::bothWithAGap);
        sentence("LEFT: the rows of P that have a letter in that column", TermsEdgesTest::leftWithGaps);
        sentence("for each RIGHT the same with P and Q exchanged", TermsEdgesTest::rightWithGaps);
        sentence("times both weights", TermsEdgesTest::weighedSteps);
        sentence("LEFT that is not right behind a LEFT", TermsEdgesTest::openings);
        sentence("a BOTH rather than a LEFT or RIGHT", TermsEdgesTest::bothFirst);
        sentence("a LEFT rather than a RIGHT", TermsEdgesTest::leftBeforeRight);
        sentence("at the first step where they differ", TermsEdgesTest::firstDifference);
    }

    private static void distances() {
        sentence("1000 - r, r being 1000 * s / l rounded down", TermsEdgesTest::distanceRoundedDown);
        sentence("of which the shorter one has l letters", TermsEdgesTest::distanceOfTheShorter);
        sentence("the word with the lesser number (as P)", TermsEdgesTest::distanceLesserIsP);
        sentence("With TUPLES it is 1000 when l is 1", TermsEdgesTest::tuplesOfOneLetter);
        sentence("else 1000 - r, r being 1000 * c / (l - 1) rounded down", TermsEdgesTest::tuplesRoundedDown);
        sentence("of the lesser one of two numbers", TermsEdgesTest::tuplesLesserNumber);
        sentence("has this pair side by side in this order", TermsEdgesTest::tuplesInOrder);
    }

    private static void trees() {
        sentence("As long as more than one node has no parent", TermsEdgesTest::treesOfOneAndTwo);
        sentence("the one with the lesser number is its left child", TermsEdgesTest::lesserIsLeft);
        sentence("of several pairs those with the lesser left child", TermsEdgesTest::lesserLeftChild);
        sentence("of these those with the lesser right child", TermsEdgesTest::lesserRightChild);
        sentence("the average of the distances, exactly", TermsEdgesTest::exactAverages);
        sentence("of all words under the one with all words under the other", TermsEdgesTest::averageOfAllWords);
        sentence("half of (the spans ..., less the span of these)", TermsEdgesTest::halfSpans);
        sentence("a span below 0", TermsEdgesTest::spansBelowZero);
        sentence("(m - 2) * their span", TermsEdgesTest::neighboursOfFewNodes);
    }

    private static void weightsAndTotals() {
        sentence("WEIGHTS are 1 except with WEIGHING", TermsEdgesTest::weightsWithoutWeighing);
        sentence("and without NEIGHBOURS", TermsEdgesTest::weightsWithNeighbours);
        sentence("the HEIGHT of a word is 0", TermsEdgesTest::heightOfAWord);
        sentence("divided by 100, rounded down", TermsEdgesTest::heightsRoundedDown);
        sentence("up to, but without, the last one", TermsEdgesTest::withoutTheLastNode);
        sentence("divided by the number of words under the node, rounded down", TermsEdgesTest::partsRoundedDown);
        sentence("the left one's group (P) with the right one's (Q)", TermsEdgesTest::leftGroupIsP);
        sentence("columns in which both have gaps being left out", TermsEdgesTest::bothGapsLeftOut);
        sentence("for every run of columns, and likewise the other", TermsEdgesTest::runsOfGaps);
    }

    private static void changes() {
        sentence("A call that is refused changes nothing: new object", TermsEdgesTest::refusedWhenNew);
        sentence("A call that is refused changes nothing: letters", TermsEdgesTest::refusedWithLetters);
        sentence("A call that is refused changes nothing: words", TermsEdgesTest::refusedWithWords);
        sentence("A call that is refused changes nothing: layout", TermsEdgesTest::refusedWithLayout);
        sentence("A call that is refused changes nothing: one row", TermsEdgesTest::refusedWithOneRow);
        sentence("A call that is refused changes nothing: full", TermsEdgesTest::refusedWhenFull);
        sentence("Whenever a word is ended, layout and tree are gone", TermsEdgesTest::goneByEnd);
        sentence("Whenever a score is given, layout and tree are gone", TermsEdgesTest::goneByScore);
        sentence("Whenever OPEN and EXTEND are given, layout and tree are gone", TermsEdgesTest::goneByGaps);
        sentence("Whenever a setting is given, layout and tree are gone", TermsEdgesTest::goneBySettings);
        sentence("nothing else takes them away", TermsEdgesTest::notGoneByOtherCalls);
    }

    // ---- What it is

    private static void fiveHundredAndTwelveCalls() {
        GuidedAligner x = with(TWELVE, TWELVE, TWELVE, TWELVE, TWELVE);
        int calls = 5 * 13;
        for (; calls < 510; calls++) {
            if (calls % 2 == 0) {
                same("call " + calls, x.polish(), 0);
            } else {
                same("call " + calls, x.align(), 12);
            }
        }
        same("call 511", x.total(), 10 * 60);
        same("call 512", x.align(), 12);
        GuidedAligner typing = new GuidedAligner();
        for (calls = 0; calls < 509; calls++) {
            same("call " + calls, typing.type('A'), calls < 12);
        }
        same("call 510", typing.end(), 0);
        same("call 511", typing.align(), 12);
        same("call 512", typing.at(0, 11), 'A');
    }

    // ---- Letters, words, scores, settings, groups

    private static void letterNumbers() {
        for (int a = 0; a < 4; a++) {
            for (int b = 0; b < 4; b++) {
                GuidedAligner x = with("ACGT".substring(a, a + 1), "ACGT".substring(b, b + 1));
                x.gaps(20, 20);
                x.score(a, b, 13);
                same("letters " + a + " and " + b, x.pair(0, 1), 13);
            }
        }
    }

    private static void oneToTwelveLetters() {
        for (int length = 0; length <= 13; length++) {
            GuidedAligner x = new GuidedAligner();
            for (int k = 0; k < length; k++) {
                same("letter " + k, x.type('C'), k < 12);
            }
            same("a word of " + length, x.end(), length == 0 ? -1 : 0);
            same("columns", x.align(), length == 0 ? -1 : Math.min(length, 12));
        }
    }

    private static void scoresBothWays() {
        GuidedAligner x = with("A", "T");
        x.gaps(20, 20);
        for (int v = -20; v <= 20; v++) {
            same("given", v % 2 == 0 ? x.score(0, 3, v) : x.score(3, 0, v), true);
            same("0 with 3", x.pair(0, 1), v);
            same("3 with 0", x.pair(1, 0), v);
        }
    }

    private static void firstScores() {
        for (int a = 0; a < 4; a++) {
            for (int b = 0; b < 4; b++) {
                GuidedAligner x = with("ACGT".substring(a, a + 1), "ACGT".substring(b, b + 1));
                same("letters " + a + " and " + b, x.pair(0, 1), a == b ? 5 : -4);
            }
        }
        new GuidedAligner().score(0, 0, 20);
        same("each object has scores of its own", with("A", "A").pair(0, 1), 5);
    }

    private static void firstGaps() {
        for (int length = 2; length <= 12; length++) {
            same("a gap of " + (length - 1), with("A", ALL_A.substring(0, length)).pair(0, 1), 5 - 10 - (length - 1));
        }
        new GuidedAligner().gaps(0, 0);
        same("each object has its own", with("A", "AA").pair(0, 1), 5 - 11);
    }

    private static void firstSettings() {
        GuidedAligner x = with("ACA", "CAC", "ACA");
        same("TUPLES is off", x.distance(0, 1), 1000);
        x.align();
        text("NEIGHBOURS is off", tree(x), "0,2 1,3");
        text("WEIGHING is off", weights(x), "1 1 1");
        new GuidedAligner().settings(true, true, true);
        same("each object has its own", with("ACA", "CAC").distance(0, 1), 1000);
    }

    private static void groups() {
        for (int seed = 0; seed < 400; seed++) {
            Random random = new Random(seed);
            String[] words = new String[1 + random.nextInt(5)];
            for (int i = 0; i < words.length; i++) {
                words[i] = randomWord(random, seed % 3 == 0 ? 12 : 1 + seed % 12);
            }
            GuidedAligner x = with(words);
            for (int n = seed % 6; n > 0; n--) {
                x.score(random.nextInt(4), random.nextInt(4), random.nextInt(41) - 20);
            }
            x.gaps(random.nextInt(seed % 21 + 1), random.nextInt(seed % 7 + 1));
            x.settings(random.nextBoolean(), random.nextInt(4) == 0, random.nextBoolean());
            same("seed " + seed + ", align", x.align(), x.columns());
            // Sixty columns can be read only once within the 512 calls of an object.
            if (seed % 2 == 0) {
                x.polish();
            }
            isGroup("seed " + seed, x, words);
        }
    }

    private static String randomWord(Random random, int longest) {
        StringBuilder word = new StringBuilder();
        for (int n = 1 + random.nextInt(longest); n > 0; n--) {
            word.append("ACGT".charAt(random.nextInt(4)));
        }
        return word.toString();
    }

    private static void isGroup(String what, GuidedAligner x, String[] words) {
        int columns = x.columns();
        boolean[] hasLetter = new boolean[columns];
        for (int i = 0; i < words.length; i++) {
            StringBuilder row = new StringBuilder();
            for (int k = 0; k < columns; k++) {
                row.append(x.at(i, k));
                hasLetter[k] |= row.charAt(k) != '-';
            }
            text(what + ", row " + i, row.toString().replace("-", ""), words[i]);
            same(what + ", weight from 1 on", x.weight(i) >= 1, true);
        }
        for (int k = 0; k < columns; k++) {
            same(what + ", a letter in column " + k, hasLetter[k], true);
        }
    }

    // ---- Merges

    private static void bothWithAGap() {
        GuidedAligner x = aligned("TAT", "TT", "TCT");
        text("tree", tree(x), "0,1 2,3");
        text("rows", rows(x), "TAT T-T TCT");
        // C beside A and a gap: -4 once.
        text("worths", worths(x), "-1 " + (2 * 5 - 4 + 2 * 5));
    }

    private static void leftWithGaps() {
        GuidedAligner x = withDearC("AAAA", "AA", "CC", "CC");
        text("tree", tree(x), "0,1 2,3 4,5");
        text("rows", rows(x), "AAAA-- AA---- ----CC ----CC");
        // Four LEFT over 2, 2, 1, 1 letters with two rows beside; two RIGHT over 2 letters; both open for 2 * 2.
        same("worth", x.worth(6), -(2 + 2 + 1 + 1) * 2 - 4 - (2 + 2) * 2 - 4);
    }

    private static void rightWithGaps() {
        GuidedAligner x = withDearC("CC", "CC", "AAAA", "AA");
        text("tree", tree(x), "0,1 2,3 4,5");
        text("rows", rows(x), "CC---- CC---- --AAAA --AA--");
        same("worth", x.worth(6), -(2 + 2) * 2 - 4 - (2 + 2 + 1 + 1) * 2 - 4);
    }

    private static GuidedAligner withDearC(String... words) {
        GuidedAligner x = with(words);
        x.gaps(1, 1);
        x.score(0, 1, -10);
        x.align();
        return x;
    }

    private static void weighedSteps() {
        GuidedAligner x = with("AAAA", "AA", "CC", "CC");
        x.gaps(1, 1);
        x.score(0, 1, -10);
        x.settings(false, false, true);
        x.align();
        text("weights", weights(x), "6 6 6 6");
        text("worths", worths(x), 36 * (10 - 3) + " " + 36 * 10 + " " + 36 * -28);
        GuidedAligner y = with("AC", "GC", "GC");
        y.settings(false, false, true);
        y.align();
        // 1 and 2 at 0, 0 at 500 from both: 6 beside 3 and 3.
        text("weights", weights(y), "6 3 3");
        text("worths", worths(y), 3 * 3 * 10 + " " + 6 * 6 * (5 - 4));
    }

    private static void openings() {
        GuidedAligner x = with("ACA", "C", "AA", "G", "CC");
        x.gaps(1, 0);
        same("LEFT, BOTH, LEFT open twice", x.pair(0, 1), 5 - 2);
        same("RIGHT, BOTH, RIGHT open twice", x.pair(1, 0), 5 - 2);
        x.score(0, 1, -20);
        same("LEFT, LEFT, RIGHT, RIGHT open twice", x.pair(2, 4), -2);
        same("the first step opens", x.pair(2, 3), -2);
        x.gaps(20, 0);
        same("a BOTH opens nothing", x.pair(1, 4), 5 - 20);
        x.gaps(0, 20);
        same("nothing to pay for opening", x.pair(0, 1), 5 - 40);
    }

    private static void bothFirst() {
        text("rather than LEFT", rows(aligned("AA", "A")), "AA A-");
        text("rather than RIGHT", rows(aligned("A", "AA")), "A- AA");
        text("also at the third step", rows(aligned("TGAA", "TGA")), "TGAA TGA-");
        GuidedAligner x = with("A", "C");
        x.gaps(1, 1);
        x.align();
        text("-4 either way", rows(x), "A C");
        x.gaps(0, 2);
        x.align();
        text("-4 either way", rows(x), "A C");
        x.gaps(1, 0);
        x.align();
        text("-2 is more than -4", rows(x), "A- -C");
    }

    private static void leftBeforeRight() {
        GuidedAligner x = with("A", "C");
        x.gaps(0, 0);
        x.align();
        text("A is P", rows(x), "A- -C");
        GuidedAligner y = with("AA", "CC");
        y.gaps(0, 0);
        y.align();
        text("LEFT again rather than RIGHT", rows(y), "AA-- --CC");
        GuidedAligner z = with("TA", "TC");
        z.gaps(0, 0);
        z.align();
        text("behind a BOTH", rows(z), "TA- T-C");
    }

    private static void firstDifference() {
        // LEFT BOTH RIGHT (C under C) and RIGHT BOTH LEFT (A under G) are best: from the end it would be the other.
        GuidedAligner x = with("AC", "CG");
        x.gaps(0, 0);
        x.score(1, 1, 20);
        x.score(0, 2, 20);
        x.align();
        text("LEFT first", rows(x), "AC- -CG");
        text("BOTH first, LEFT later", rows(aligned("AAA", "A")), "AAA A--");
        text("BOTH first, RIGHT later", rows(aligned("A", "AAA")), "A-- AAA");
        text("two BOTH first", rows(aligned("AAAAA", "AA")), "AAAAA AA---");
    }

    // ---- Distances

    private static void distanceRoundedDown() {
        for (int same = 0; same <= 12; same++) {
            GuidedAligner x = with(ALL_A, ALL_A.substring(0, same) + "CCCCCCCCCCCC".substring(same));
            x.gaps(20, 20);
            same(same + " of 12", x.distance(0, 1), 1000 - 1000 * same / 12);
            same(same + " of 12, asked the other way", x.distance(1, 0), 1000 - 1000 * same / 12);
        }
        same("1 of 3", with("AAA", "ACC").distance(0, 1), 667);
        same("1 of 7", with("AAAAAAA", "ACCCCCC").distance(0, 1), 1000 - 142);
    }

    private static void distanceOfTheShorter() {
        same("one letter, found", with("A", ALL_A).distance(0, 1), 0);
        same("one letter, found", with(ALL_A, "A").distance(0, 1), 0);
        same("one letter, not found", with("C", ALL_A).distance(0, 1), 1000);
        same("one letter with one", with("C", "C").distance(0, 1), 0);
        same("one letter with another", with("C", "G").distance(0, 1), 1000);
        same("one of two", with("ACGTACGT", "AA").distance(1, 0), 500);
    }

    private static void distanceLesserIsP() {
        // LEFT BOTH RIGHT is best: with AC as P it has C under C, with CG as P it has G under A.
        for (int turned = 0; turned < 2; turned++) {
            GuidedAligner x = turned == 0 ? with("AC", "CG") : with("CG", "AC");
            x.gaps(0, 0);
            x.score(1, 1, 20);
            x.score(0, 2, 20);
            x.score(0, 1, -20);
            x.score(1, 2, -20);
            same("word 0 first, turned " + turned, x.distance(0, 1), turned == 0 ? 500 : 1000);
            same("word 1 first, turned " + turned, x.distance(1, 0), turned == 0 ? 500 : 1000);
        }
    }

    private static void tuplesOfOneLetter() {
        for (String[] two : new String[][] {{"A", "A"}, {"A", "C"}, {"A", ALL_A}, {ALL_A, "A"}, {"A", "AA"}}) {
            GuidedAligner x = byTuples(two);
            same(two[0] + " and " + two[1], x.distance(0, 1), 1000);
            same(two[1] + " and " + two[0], x.distance(1, 0), 1000);
        }
    }

    private static GuidedAligner byTuples(String... words) {
        GuidedAligner x = with(words);
        x.settings(true, false, false);
        return x;
    }

    private static void tuplesRoundedDown() {
        same("one of one", byTuples("AC", "AC").distance(0, 1), 0);
        same("none of one", byTuples("AC", "AG").distance(0, 1), 1000);
        same("one of one in a longer one", byTuples("GACG", "AC").distance(0, 1), 0);
        same("one of three", byTuples("AAAA", "CAAC").distance(0, 1), 667);
        same("two of three", byTuples("CAAC", "ACAC").distance(1, 0), 334);
        same("four of eleven", byTuples(ALL_A, "AACAACAACAAC").distance(0, 1), 1000 - 363);
        same("eleven of eleven", byTuples(TWELVE, TWELVE).distance(0, 1), 0);
    }

    private static void tuplesLesserNumber() {
        same("AA three times and twice", byTuples("AAAA", "AAA").distance(0, 1), 0);
        same("AA twice and three times", byTuples("AAA", "AAAA").distance(0, 1), 0);
        same("AA eleven times and once", byTuples(ALL_A, "AACC").distance(0, 1), 667);
        same("AA once and eleven times", byTuples("AACC", ALL_A).distance(0, 1), 667);
    }

    private static void tuplesInOrder() {
        same("AC and CA", byTuples("AC", "CA").distance(0, 1), 1000);
        same("A and C, not side by side", byTuples("AC", "AGC").distance(0, 1), 1000);
        same("AC and CA in both", byTuples("ACA", "CAC").distance(0, 1), 0);
        for (int pair = 0; pair < 16; pair++) {
            String two = "" + "ACGT".charAt(pair / 4) + "ACGT".charAt(pair % 4);
            same(two + " in both", byTuples(two, two).distance(0, 1), 0);
        }
    }

    // ---- Trees

    private static void treeIs(String what, GuidedAligner x, String want) {
        x.align();
        text(what, tree(x), want);
        same(what + ", no node more", x.child(2 * x.words() - 1, 0), -1);
    }

    private static GuidedAligner byNeighbours(String... words) {
        GuidedAligner x = with(words);
        x.settings(false, true, false);
        return x;
    }

    private static void treesOfOneAndTwo() {
        treeIs("one word", with("A"), "");
        treeIs("two words", with("A", "C"), "0,1");
        treeIs("one word, NEIGHBOURS", byNeighbours("A"), "");
        treeIs("two words, NEIGHBOURS", byNeighbours("A", "C"), "0,1");
        treeIs("five words", with("A", "A", "A", "A", "A"), "0,1 2,3 4,5 6,7");
        treeIs("five words, NEIGHBOURS", byNeighbours("A", "A", "A", "A", "A"), "0,1 2,3 4,5 6,7");
    }

    private static void lesserIsLeft() {
        treeIs("a word with a node", with("CCCC", "AAAA", "AAAA"), "1,2 0,3");
        treeIs("a node with a node", with("AAAA", "CCCC", "AAAA", "CCCC"), "0,2 1,3 4,5");
    }

    private static void lesserLeftChild() {
        treeIs("0 with 3 before 1 with 2", with("AAAA", "CCCC", "CCCC", "AAAA"), "0,3 1,2 4,5");
        // 2 is at 0 from 0 and from 1, which are at 1000.
        treeIs("0 with 2 before 1 with 2", with("CA", "AG", "A"), "0,2 1,3");
        // All are at 1000: a word with a word before a word with a node.
        treeIs("words first", with("A", "C", "G", "T"), "0,1 2,3 4,5");
    }

    private static void lesserRightChild() {
        // 0 is at 0 from 1 and 2, which are at 1000.
        treeIs("0 with 1 before 0 with 2", with("A", "CA", "AG"), "0,1 2,3");
        // 2 with 3 are at 1000, as 2 with the node of 0 and 1.
        treeIs("2 with 3 before 2 with 4", with("A", "A", "C", "G"), "0,1 2,3 4,5");
    }

    private static void exactAverages() {
        GuidedAligner x = with("GCG", "GACC", "A", "ACC");
        same("distance of 0 and 1", x.distance(0, 1), 334);
        same("distance of 0 and 3", x.distance(0, 3), 667);
        // 1 and 3 are at 0; their node is at 500.5 from 0 and at 500 from 2.
        treeIs("500 before 500.5", x, "1,3 2,4 0,5");
        GuidedAligner y = with("AGC", "A", "AAG", "CAG");
        same("distance of 2 and 3", y.distance(2, 3), 334);
        same("distance of 0 and 2", y.distance(0, 2), 667);
        // 0 and 1 are at 0; their node is at 333.5 from 2.
        treeIs("333.5 before 334", y, "0,1 2,4 3,5");
    }

    private static void averageOfAllWords() {
        GuidedAligner x = with("A", "GC", "A", "AC", "GA");
        same("distance of 1 and 4", x.distance(1, 4), 500);
        same("distance of 3 and 4", x.distance(3, 4), 1000);
        // 0, 2 and 3 are at 0, 0 and 1000 from 4: 333.3, not the 500 of (0 + 1000) / 2.
        treeIs("three words under a node", x, "0,2 3,5 4,6 1,7");
    }

    private static void halfSpans() {
        GuidedAligner x = byNeighbours("A", "CGA", "A", "CCA", "CGC");
        same("distance of 1 and 4", x.distance(1, 4), 334);
        same("distance of 1 and 3", x.distance(1, 3), 334);
        same("distance of 3 and 4", x.distance(3, 4), 667);
        // Four are alike: the node of 0 and 1 is at 1000 from 4, not at 2000, so that 2 with 3 is as good as 2 with 4.
        treeIs("half", byNeighbours("A", "A", "A", "A", "C"), "0,1 2,3 4,5 6,7");
        // 1 with 4 has a node at 333, 333 and 333.5 from 0, 2 and 3: with the half 0 goes with 3.
        treeIs("a half counts", x, "1,4 0,3 2,5 6,7");
    }

    private static void spansBelowZero() {
        // 4 is at 0 from all: the node of 0 and 1, at 500, has it at -250.
        treeIs("below 0", byNeighbours("GA", "CA", "AA", "AC", "A"), "0,1 2,3 4,5 6,7");
    }

    private static void neighboursOfFewNodes() {
        // With three nodes every pair has the same value, whatever the distances are.
        treeIs("three words", byNeighbours("A", "C", "A"), "0,1 2,3");
        treeIs("three words", byNeighbours("C", "A", "A"), "0,1 2,3");
        treeIs("three words, without", with("A", "C", "A"), "0,2 1,3");
        // With four, pairs and their complements have the same value.
        treeIs("four words", byNeighbours("A", "C", "A", "C"), "0,2 1,3 4,5");
    }

    // ---- Weights, layouts and totals

    private static void weightsWithoutWeighing() {
        text("off", weights(aligned("A", "C")), "1 1");
        GuidedAligner x = byTuples("AC", "GT");
        x.align();
        text("with TUPLES alone", weights(x), "1 1");
        GuidedAligner one = with("A");
        one.settings(false, false, true);
        one.align();
        text("one word", weights(one), "1");
        GuidedAligner alike = with("A", "A", "A", "A", "A");
        alike.settings(false, false, true);
        alike.align();
        text("five words alike", weights(alike), "1 1 1 1 1");
        GuidedAligner far = with("A", "C", "G", "T");
        far.settings(false, false, true);
        far.align();
        text("four words far from one another", weights(far), "11 11 11 11");
    }

    private static void weightsWithNeighbours() {
        for (int tuples = 0; tuples < 2; tuples++) {
            GuidedAligner x = with("AC", "GT", "CA");
            x.settings(tuples == 1, true, true);
            x.align();
            text("NEIGHBOURS and WEIGHING", weights(x), "1 1 1");
            x.settings(tuples == 1, false, true);
            x.align();
            text("WEIGHING alone", weights(x), "11 11 11");
        }
    }

    private static void heightOfAWord() {
        GuidedAligner x = with("AAAA", "CCCC");
        x.settings(false, false, true);
        x.align();
        text("node 2 has height 10", weights(x), "11 11");
        addWords(x, "GGGG");
        x.align();
        text("node 2 is a word now", weights(x), "11 11 11");
        addWords(x, "TTTT", "TTTT");
        x.align();
        text("nodes 3 and 4 are words now", weights(x), "11 11 11 6 6");
    }

    private static void heightsRoundedDown() {
        // The distances are 0, 84, 167, 250, 334, 417, 500, 584, 667, 750, 834, 917, 1000.
        int[] heights = {0, 0, 1, 2, 3, 4, 5, 5, 6, 7, 8, 9, 10};
        for (int other = 0; other <= 12; other++) {
            GuidedAligner x = with(ALL_A, ALL_A.substring(other) + "CCCCCCCCCCCC".substring(12 - other));
            x.gaps(20, 20);
            x.settings(false, false, true);
            x.align();
            int height = heights[other];
            text(other + " of 12 differ", weights(x), (1 + height) + " " + (1 + height));
        }
        GuidedAligner y = with("AAA", "AAC", "ACC");
        y.settings(false, false, true);
        y.align();
        // 334: height 3; (667 + 334) / 2: height 5.
        text("of an average", weights(y), (1 + 3 + 1) + " " + (1 + 3 + 1) + " " + (1 + 5));
        GuidedAligner z = with("GGGC", "AGGGCC", "CAGAAA");
        z.settings(false, false, true);
        z.align();
        // 250: height 2; (750 + 834) / 2 = 792: height 7.
        text("8 below 800", weights(z), (1 + 2 + 2) + " " + (1 + 2 + 2) + " " + (1 + 7));
    }

    private static void withoutTheLastNode() {
        GuidedAligner x = with("AAAA", "AAAA", "CCCC");
        x.settings(false, false, true);
        x.align();
        text("word, node, then the last one", weights(x), (1 + 0 + 10 / 2) + " " + (1 + 0 + 10 / 2) + " " + (1 + 10));
    }

    private static void partsRoundedDown() {
        GuidedAligner x = with("AAAAAAAAAA", "AAAAAAAAAA", "AAAAACCCCC", "GGGGGGGGGG");
        x.settings(false, false, true);
        x.align();
        text("tree", tree(x), "0,1 2,4 3,5");
        // Heights 0, 5, 10 over 2, 3, 4 words.
        text("weights", weights(x), (1 + 5 / 2 + 5 / 3) + " " + (1 + 5 / 2 + 5 / 3) + " " + (1 + 5 + 5 / 3) + " 11");
    }

    private static void leftGroupIsP() {
        GuidedAligner x = with("CC", "A", "A");
        x.gaps(0, 0);
        x.align();
        text("a word is the left one of a node", tree(x) + " " + rows(x), "1,2 0,3 CC- --A --A");
        GuidedAligner y = with("A", "A", "CC");
        y.gaps(0, 0);
        y.align();
        text("also with a greater number than its words", tree(y) + " " + rows(y), "0,1 2,3 --A --A CC-");
    }

    private static void bothGapsLeftOut() {
        GuidedAligner x = aligned("ACTGT", "AT", "ACGT");
        text("rows", rows(x), "ACTGT A---T AC-GT");
        // Rows 1 and 2 have one run of two, though a column of gaps in both stands between.
        same("total", x.total(), (10 - 13) + (20 - 11) + (10 - 10 - 2));
    }

    private static void runsOfGaps() {
        GuidedAligner x = with("A", "C");
        x.gaps(1, 0);
        x.align();
        text("one row's run right behind the other's", rows(x) + " " + x.total(), "A- -C -2");
        GuidedAligner y = with("GCCG", "CC");
        y.gaps(3, 1);
        y.align();
        text("a run at each end", rows(y) + " " + y.total(), "GCCG -CC- " + (10 - 4 - 4));
        GuidedAligner z = with("ACGTACGTACGT", "G");
        z.gaps(1, 1);
        z.align();
        text("runs of two and nine", rows(z) + " " + z.total(), "ACGTACGTACGT --G--------- " + (5 - 3 - 10));
        GuidedAligner w = with("AA", "CCC");
        w.gaps(0, 1);
        w.align();
        text("runs of two and three", rows(w) + " " + w.total(), "AA--- --CCC -5");
        GuidedAligner none = aligned("ACGT", "ACGA");
        same("no run", none.total(), 15 - 4);
    }

    // ---- Refused calls and changes

    /** Two objects alike, of which one gets the refused call: whatever comes then, they answer alike. */
    private static void changesNothing(String what, Consumer<GuidedAligner> before, Consumer<GuidedAligner> refused) {
        GuidedAligner with = new GuidedAligner();
        GuidedAligner without = new GuidedAligner();
        before.accept(with);
        before.accept(without);
        refused.accept(with);
        text(what + ", at once", seen(with), seen(without));
        text(what + ", later", later(with), later(without));
    }

    private static String seen(GuidedAligner x) {
        StringBuilder text = new StringBuilder(x.words() + " | " + made(x));
        for (int i = 1; i < x.words(); i++) {
            text.append(" | ").append(x.pair(0, i)).append(' ').append(x.distance(0, i));
        }
        return text.toString();
    }

    private static String later(GuidedAligner x) {
        boolean better = x.refine(1);
        int rest = 0;
        while (rest < 12 && x.type('G')) {
            rest++;
        }
        return better + " " + x.polish() + " " + rest + " " + x.end() + " " + x.align() + " " + seen(x);
    }

    private static void refusedTypes(Consumer<GuidedAligner> state) {
        for (char c : "acgt-B *\u00C1".toCharArray()) {
            changesNothing("type " + c, state, x -> same("type " + c, x.type(c), false));
        }
    }

    private static void refusedCosts(Consumer<GuidedAligner> state) {
        for (int[] bad : new int[][] {{-1, 0, 9}, {4, 0, 9}, {0, -1, 9}, {0, 4, 9}, {0, 1, 21}, {0, 1, -21}}) {
            changesNothing("score", state, x -> same("score", x.score(bad[0], bad[1], bad[2]), false));
        }
        for (int[] bad : new int[][] {{-1, 0}, {21, 0}, {0, -1}, {0, 21}, {-1, 21}}) {
            changesNothing("gaps", state, x -> same("gaps", x.gaps(bad[0], bad[1]), false));
        }
    }

    private static void refusedQuestions(Consumer<GuidedAligner> state) {
        for (int[] bad : new int[][] {{-1, 0}, {0, -1}, {5, 0}, {0, 5}, {0, 0}}) {
            changesNothing("pair", state, x -> same("pair", x.pair(bad[0], bad[1]), -1000000));
            changesNothing("distance", state, x -> same("distance", x.distance(bad[0], bad[1]), -1));
        }
        for (int[] bad : new int[][] {{-1, 0}, {0, 0}, {9, 1}, {8, 2}, {8, -1}}) {
            changesNothing("child", state, x -> same("child", x.child(bad[0], bad[1]), -1));
        }
        for (int bad : new int[] {-1, 5}) {
            changesNothing("refine", state, x -> same("refine", x.refine(bad), false));
        }
    }

    private static void refusedWhenNew() {
        Consumer<GuidedAligner> state = x -> { };
        refusedTypes(state);
        refusedCosts(state);
        refusedQuestions(state);
        changesNothing("end", state, x -> same("end", x.end(), -1));
        changesNothing("align", state, x -> same("align", x.align(), -1));
        changesNothing("refine", state, x -> same("refine", x.refine(0), false));
        changesNothing("polish", state, x -> same("polish", x.polish(), -1));
    }

    private static void refusedWithLetters() {
        Consumer<GuidedAligner> state = x -> {
            x.gaps(3, 2);
            typeAll(x, "GATC");
        };
        refusedTypes(state);
        refusedCosts(state);
        refusedQuestions(state);
        changesNothing("align", state, x -> same("align", x.align(), -1));
        changesNothing("polish", state, x -> same("polish", x.polish(), -1));
    }

    private static void refusedWithWords() {
        Consumer<GuidedAligner> state = x -> {
            x.settings(true, false, true);
            addWords(x, "GATC", "ACT", "GGT");
        };
        refusedTypes(state);
        refusedCosts(state);
        refusedQuestions(state);
        changesNothing("end", state, x -> same("end", x.end(), -1));
        changesNothing("refine", state, x -> same("refine", x.refine(0), false));
        changesNothing("polish", state, x -> same("polish", x.polish(), -1));
    }

    private static void refusedWithLayout() {
        Consumer<GuidedAligner> state = x -> {
            addWords(x, "AAG", "CG", "CGG");
            x.align();
            typeAll(x, "TA");
        };
        refusedTypes(state);
        refusedCosts(state);
        refusedQuestions(state);
        changesNothing("refine", state, x -> same("refine", x.refine(0), false));
        changesNothing("refine", state, x -> same("refine", x.refine(3), false));
        Consumer<GuidedAligner> untyped = x -> {
            addWords(x, "AAG", "CG", "CGG");
            x.settings(false, false, true);
            x.align();
        };
        changesNothing("end", untyped, x -> same("end", x.end(), -1));
    }

    private static void refusedWithOneRow() {
        Consumer<GuidedAligner> state = x -> {
            addWords(x, "GATC");
            x.align();
        };
        refusedQuestions(state);
        changesNothing("refine", state, x -> same("refine", x.refine(0), false));
        changesNothing("end", state, x -> same("end", x.end(), -1));
        changesNothing("pair", state, x -> same("pair", x.pair(0, 1), -1000000));
    }

    private static void refusedWhenFull() {
        Consumer<GuidedAligner> state = x -> {
            addWords(x, "AAG", "CG", "CGG", "GATC", "T");
            x.align();
            typeAll(x, TWELVE);
        };
        refusedTypes(state);
        refusedCosts(state);
        refusedQuestions(state);
        changesNothing("type", state, x -> same("type", x.type('A'), false));
        changesNothing("end", state, x -> same("end", x.end(), -1));
    }

    private static void addWords(GuidedAligner x, String... words) {
        for (String word : words) {
            typeAll(x, word);
            x.end();
        }
    }

    /** Takes layout and tree away, and they come back by align alone. */
    private static void takesAway(String what, Consumer<GuidedAligner> call) {
        GuidedAligner x = aligned("AAG", "CG", "CGG");
        same(what + ", before", x.columns() > 0 && x.child(4, 0) == 0 && x.weight(2) == 1, true);
        call.accept(x);
        noLayout(x);
        same(what + ", words stay", x.words() >= 3, true);
        x.pair(0, 1);
        x.distance(0, 1);
        noLayout(x);
        same(what + ", align", x.align() > 0 && x.child(4, 0) >= 0, true);
    }

    private static void goneByEnd() {
        takesAway("a fourth word", x -> {
            x.type('A');
            same("still there", x.columns(), 3);
            same("end", x.end(), 3);
        });
        GuidedAligner x = aligned("A", "C", "G", "T");
        x.type('A');
        same("the fifth", x.end(), 4);
        noLayout(x);
        same("its row has none", x.at(4, 0), ' ');
    }

    private static void goneByScore() {
        takesAway("another score", x -> same("score", x.score(0, 3, 20), true));
        takesAway("the score that it was", x -> same("score", x.score(0, 3, -4), true));
        takesAway("the score that it was, of one letter", x -> same("score", x.score(2, 2, 5), true));
    }

    private static void goneByGaps() {
        takesAway("others", x -> same("gaps", x.gaps(3, 3), true));
        takesAway("those that were", x -> same("gaps", x.gaps(10, 1), true));
    }

    private static void goneBySettings() {
        takesAway("TUPLES", x -> x.settings(true, false, false));
        takesAway("NEIGHBOURS", x -> x.settings(false, true, false));
        takesAway("WEIGHING", x -> x.settings(false, false, true));
        takesAway("those that were", x -> x.settings(false, false, false));
    }

    private static void notGoneByOtherCalls() {
        GuidedAligner x = aligned("AAG", "CG", "CGG");
        String before = made(x);
        x.type('T');
        text("type", made(x), before);
        for (int i = 0; i < 3; i++) {
            for (int j = 0; j < 3; j++) {
                x.pair(i, j);
                x.distance(i, j);
            }
        }
        text("pair and distance", made(x), before);
        x.settings(false, false, true);
        x.align();
        before = made(x);
        same("pair", x.pair(2, 0), -3);
        text("pair with weights", made(x), before);
    }
}
