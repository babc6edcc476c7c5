import java.util.function.Consumer;

/** Every sentence of promises 1 to 19 that names a boundary case, each with a test of its own. */
public final class PromiseEdgesTest extends Checks {
    private static final String TWELVE = "GATTACAGATCT";
    private static final int[] NO_WORD_OF_THREE = {-1, 3, 4, 5, 6, 32, 33, 64, -32, LEAST, GREATEST};
    private static final int FAR_OUT = 1 << 30;

    public static void main(String[] args) {
        typing();
        costs();
        questionsOnWords();
        layout();
        treeAndWeights();
        refining();
        finish();
    }

    private static void typing() {
        sentence("1: No words", PromiseEdgesTest::newHasNoWords);
        sentence("1: no letters typed", PromiseEdgesTest::newHasNoLettersTyped);
        sentence("1: no layout", PromiseEdgesTest::newHasNoLayout);
        sentence("2: Puts a letter to the word that is being typed", PromiseEdgesTest::typePutsALetter);
        sentence("2: false when c is no letter", PromiseEdgesTest::typeNoLetter);
        sentence("2: false when that has 12", PromiseEdgesTest::typeThirteenth);
        sentence("3: Ends the word that is being typed: its number", PromiseEdgesTest::endGivesNumbers);
        sentence("3: -1 when it has no letter", PromiseEdgesTest::endWithoutLetter);
        sentence("3: -1 when there are five words", PromiseEdgesTest::endWithFiveWords);
    }

    private static void costs() {
        sentence("4: The score of letters x and y is v from now on", PromiseEdgesTest::scoreTakesTheEnds);
        sentence("4: false when x is not 0 .. 3", PromiseEdgesTest::scoreWrongX);
        sentence("4: false when y is not 0 .. 3", PromiseEdgesTest::scoreWrongY);
        sentence("4: false when v is not -20 .. 20", PromiseEdgesTest::scoreWrongV);
        sentence("5: OPEN and EXTEND from now on", PromiseEdgesTest::gapsTakesTheEnds);
        sentence("5: false when one (open) is not 0 .. 20", PromiseEdgesTest::gapsWrongOpen);
        sentence("5: false when one (extend) is not 0 .. 20", PromiseEdgesTest::gapsWrongExtend);
        sentence("6: The settings from now on", PromiseEdgesTest::settingsOfAllKinds);
    }

    private static void questionsOnWords() {
        sentence("7: How many words there are", PromiseEdgesTest::wordsFromNoneToFive);
        sentence("8: The worth of the best merge", PromiseEdgesTest::pairAtTheEnds);
        sentence("8: all weights being 1", PromiseEdgesTest::pairWithoutWeights);
        sentence("8: -1000000 when there is no word i", PromiseEdgesTest::pairNoWordI);
        sentence("8: -1000000 when there is no word j", PromiseEdgesTest::pairNoWordJ);
        sentence("8: -1000000 when they are the same", PromiseEdgesTest::pairTheSame);
        sentence("9: -1 when there is no word i", PromiseEdgesTest::distanceNoWordI);
        sentence("9: -1 when there is no word j", PromiseEdgesTest::distanceNoWordJ);
        sentence("9: -1 when they are the same", PromiseEdgesTest::distanceTheSame);
    }

    private static void layout() {
        sentence("10: the number of columns", PromiseEdgesTest::alignFromOneColumnToSixty);
        sentence("10: whether there are some or not", PromiseEdgesTest::alignOnceMore);
        sentence("10: -1 when there is no word", PromiseEdgesTest::alignNoWord);
        sentence("11: 0 when there is none", PromiseEdgesTest::columnsNone);
        sentence("12: row i (that of word i)", PromiseEdgesTest::atOfEveryRow);
        sentence("12: a space when there is no such row", PromiseEdgesTest::atNoRow);
        sentence("12: a space when there is no such column", PromiseEdgesTest::atNoColumn);
        sentence("13: * when all rows have the same letter", PromiseEdgesTest::markAllTheSame);
        sentence("13: otherwise : when none has a gap", PromiseEdgesTest::markNoneHasAGap);
        sentence("13: and the scores of all pairs of rows are above 0", PromiseEdgesTest::markAllScoresAboveZero);
        sentence("13: otherwise . when more than half have the same", PromiseEdgesTest::markMoreThanHalf);
        sentence("13: otherwise a space", PromiseEdgesTest::markOtherwise);
        sentence("13: when there is no such column, a space", PromiseEdgesTest::markNoColumn);
    }

    private static void treeAndWeights() {
        sentence("14: -1 when there is no tree", PromiseEdgesTest::childNoTree);
        sentence("14: -1 when there is no such node", PromiseEdgesTest::childNoNode);
        sentence("14: -1 when it is a word", PromiseEdgesTest::childOfAWord);
        sentence("14: -1 when which is not 0 or 1", PromiseEdgesTest::childWrongWhich);
        sentence("15: as it was made", PromiseEdgesTest::worthAsMade);
        sentence("15: 0 when there is no tree", PromiseEdgesTest::worthNoTree);
        sentence("15: 0 when there is no such node", PromiseEdgesTest::worthNoNode);
        sentence("15: 0 when it is a word", PromiseEdgesTest::worthOfAWord);
        sentence("16: 0 when there is no tree", PromiseEdgesTest::weightNoTree);
        sentence("16: 0 when there is no word i", PromiseEdgesTest::weightNoWord);
        sentence("17: 0 when there is none", PromiseEdgesTest::totalNone);
    }

    private static void refining() {
        sentence("18: the columns that have gaps only then are taken out", PromiseEdgesTest::refineTakesColumnsOut);
        sentence("18: these rows (as P) with the word i (as Q)", PromiseEdgesTest::refineOthersAreP);
        sentence("18: it is the layout from now on (tree and weights stay): true", PromiseEdgesTest::refineBetter);
        sentence("18: when greater: not when equal", PromiseEdgesTest::refineEqual);
        sentence("18: Otherwise false, and nothing is changed", PromiseEdgesTest::refineWorse);
        sentence("18: false when there is no layout", PromiseEdgesTest::refineNoLayout);
        sentence("18: false when there is no row i", PromiseEdgesTest::refineNoRow);
        sentence("18: false when the layout has one row", PromiseEdgesTest::refineOneRow);
        sentence("19: Refines row 0, row 1, and so on", PromiseEdgesTest::polishInTurn);
        sentence("19: behind the last one row 0 again", PromiseEdgesTest::polishGoesRound);
        sentence("19: until as many in turn as there are rows were false", PromiseEdgesTest::polishEnds);
        sentence("19: -1 when there is no layout", PromiseEdgesTest::polishNoLayout);
    }

    // ---- 1 to 3

    private static void newHasNoWords() {
        same("words", new GuidedAligner().words(), 0);
        same("pair", new GuidedAligner().pair(0, 1), -1000000);
        same("distance", new GuidedAligner().distance(0, 1), -1);
        same("align", new GuidedAligner().align(), -1);
        with("A", "C", "G", "T", "A").align();
        same("words of another object do not count", new GuidedAligner().words(), 0);
    }

    private static void newHasNoLettersTyped() {
        same("end", new GuidedAligner().end(), -1);
        typeAll(new GuidedAligner(), TWELVE);
        GuidedAligner x = new GuidedAligner();
        same("end after another object got letters", x.end(), -1);
        x.type('G');
        same("end", x.end(), 0);
        x.align();
        text("the one letter", rows(x), "G");
    }

    private static void newHasNoLayout() {
        noLayout(new GuidedAligner());
        aligned("A", "C");
        noLayout(new GuidedAligner());
    }

    private static void typePutsALetter() {
        GuidedAligner x = new GuidedAligner();
        for (char c : "ACGT".toCharArray()) {
            same("type " + c, x.type(c), true);
        }
        x.end();
        x.align();
        text("behind those before", rows(x), "ACGT");
        x.type('T');
        text("the ended word does not grow, the layout stays", rows(x), "ACGT");
        x.end();
        x.align();
        text("a word of its own", rows(x), "ACGT ---T");
    }

    private static void typeNoLetter() {
        for (int block = 0; block < 0x10000; block += 256) {
            GuidedAligner x = new GuidedAligner();
            x.type('G');
            for (int c = block; c < block + 256; c++) {
                if ("ACGT".indexOf(c) < 0) {
                    same("type " + c, x.type((char) c), false);
                }
            }
            x.end();
            same("only the letter", x.align(), 1);
            same("only the letter", x.at(0, 0), 'G');
        }
        GuidedAligner none = new GuidedAligner();
        same("into an empty word", none.type('a'), false);
        same("it stays empty", none.end(), -1);
        GuidedAligner full = new GuidedAligner();
        typeAll(full, TWELVE);
        same("behind twelve letters", full.type('-'), false);
    }

    private static void typeThirteenth() {
        GuidedAligner x = new GuidedAligner();
        for (char c : TWELVE.toCharArray()) {
            same("up to the twelfth", x.type(c), true);
        }
        for (char c : "ACGT".toCharArray()) {
            same("a thirteenth " + c, x.type(c), false);
        }
        same("end", x.end(), 0);
        same("twelve", x.align(), 12);
        text("those twelve", rows(x), TWELVE);
        for (int n = 1; n <= 12; n++) {
            same("the next word begins empty", x.type('A'), true);
        }
        same("its thirteenth", x.type('A'), false);
        text("the layout stays", rows(x), TWELVE);
    }

    private static void endGivesNumbers() {
        GuidedAligner x = new GuidedAligner();
        for (int n = 0; n < 5; n++) {
            typeAll(x, TWELVE.substring(0, n == 4 ? 12 : n + 1));
            same("number", x.end(), n);
        }
        x.align();
        text("the last one", rows(x).substring(4 * 13), TWELVE);
    }

    private static void endWithoutLetter() {
        GuidedAligner x = new GuidedAligner();
        same("at first", x.end(), -1);
        x.type('-');
        same("after a letter that was none", x.end(), -1);
        same("no word came of it", x.words(), 0);
        x.type('A');
        x.end();
        same("right behind an end", x.end(), -1);
        same("one word", x.words(), 1);
        x.align();
        String before = made(x);
        same("with a layout", x.end(), -1);
        text("that stays", made(x), before);
        same("no letter and five words", with("A", "A", "A", "A", "A").end(), -1);
    }

    private static void endWithFiveWords() {
        GuidedAligner x = aligned("A", "C", "G", "T", "AC");
        String before = made(x);
        typeAll(x, "GTGTG");
        same("the sixth", x.end(), -1);
        same("the sixth again", x.end(), -1);
        same("five", x.words(), 5);
        text("the layout stays", made(x), before);
        for (int n = 6; n <= 12; n++) {
            same("the typed letters stay, letter " + n, x.type('A'), true);
        }
        same("letter 13", x.type('A'), false);
        same("the sixth with twelve letters", x.end(), -1);
        x.align();
        text("the five words are as before", made(x), before);
    }

    // ---- 4 to 6

    private static void scoreTakesTheEnds() {
        for (int a = 0; a < 4; a++) {
            for (int b = 0; b < 4; b++) {
                for (int v : new int[] {-20, 0, 20}) {
                    int x = a;
                    int y = b;
                    text("score " + x + " " + y + " " + v,
                        scoresAfter(object -> same("taken", object.score(x, y, v), true)), scoresWith(x, y, v));
                }
            }
        }
        text("the later one counts", scoresAfter(object -> {
            object.score(0, 3, 20);
            object.score(3, 0, -19);
        }), scoresWith(0, 3, -19));
    }

    private static void scoreWrongX() {
        for (int bad : new int[] {-1, 4, 5, -4, 16, FAR_OUT, -FAR_OUT, FAR_OUT + 1, LEAST, GREATEST}) {
            for (int y = 0; y < 4; y++) {
                int other = y;
                refusedScore(object -> same("x " + bad, object.score(bad, other, 7), false));
            }
        }
    }

    private static void scoreWrongY() {
        for (int bad : new int[] {-1, 4, 5, -4, 16, FAR_OUT, -FAR_OUT, FAR_OUT + 1, LEAST, GREATEST}) {
            for (int x = 0; x < 4; x++) {
                int other = x;
                refusedScore(object -> same("y " + bad, object.score(other, bad, 7), false));
            }
            refusedScore(object -> same("x and y " + bad, object.score(bad, bad, 7), false));
        }
    }

    private static void scoreWrongV() {
        for (int bad : new int[] {-21, 21, 22, -100, FAR_OUT, LEAST, GREATEST}) {
            refusedScore(object -> same("v " + bad, object.score(0, 3, bad), false));
            refusedScore(object -> same("v " + bad, object.score(2, 2, bad), false));
        }
    }

    private static void refusedScore(Consumer<GuidedAligner> call) {
        text("no score is changed", scoresAfter(call), scoresWith(0, 0, 5));
        GuidedAligner x = aligned("ACGT", "AGT");
        String before = made(x);
        call.accept(x);
        text("the layout stays", made(x), before);
    }

    /** The scores of all letters, seen from words of one letter, between which gaps never pay. */
    private static String scoresAfter(Consumer<GuidedAligner> call) {
        StringBuilder text = new StringBuilder();
        for (int pair = 0; pair < 16; pair++) {
            GuidedAligner x = new GuidedAligner();
            call.accept(x);
            x.gaps(20, 20);
            x.type("ACGT".charAt(pair / 4));
            x.end();
            x.type("ACGT".charAt(pair % 4));
            x.end();
            text.append(x.pair(0, 1)).append(' ');
        }
        return text.toString();
    }

    private static String scoresWith(int x, int y, int v) {
        StringBuilder text = new StringBuilder();
        for (int a = 0; a < 4; a++) {
            for (int b = 0; b < 4; b++) {
                boolean given = a == x && b == y || a == y && b == x;
                text.append(given ? v : a == b ? 5 : -4).append(' ');
            }
        }
        return text.toString();
    }

    private static void gapsTakesTheEnds() {
        for (int open : new int[] {0, 1, 20}) {
            for (int extend : new int[] {0, 1, 20}) {
                GuidedAligner x = with("AAA", "A", "AA");
                same("taken", x.gaps(open, extend), true);
                same("a gap of one", x.pair(1, 2), 5 - open - extend);
                same("a gap of two", x.pair(0, 1), 5 - open - 2 * extend);
            }
        }
        GuidedAligner x = with("AAA", "A");
        x.gaps(20, 20);
        x.gaps(0, 1);
        same("the later ones count", x.pair(0, 1), 5 - 2);
    }

    private static void gapsWrongOpen() {
        for (int bad : new int[] {-1, 21, 22, -20, FAR_OUT, LEAST, GREATEST}) {
            for (int extend : new int[] {0, 3, 20}) {
                refusedGaps(object -> same("open " + bad, object.gaps(bad, extend), false));
            }
            refusedGaps(object -> same("both " + bad, object.gaps(bad, bad), false));
        }
    }

    private static void gapsWrongExtend() {
        for (int bad : new int[] {-1, 21, 22, -20, FAR_OUT, LEAST, GREATEST}) {
            for (int open : new int[] {0, 3, 20}) {
                refusedGaps(object -> same("extend " + bad, object.gaps(open, bad), false));
            }
        }
    }

    private static void refusedGaps(Consumer<GuidedAligner> call) {
        GuidedAligner x = aligned("AAA", "A", "AA");
        String before = made(x);
        call.accept(x);
        same("OPEN and EXTEND stay, a gap of one", x.pair(1, 2), 5 - 10 - 1);
        same("OPEN and EXTEND stay, a gap of two", x.pair(0, 1), 5 - 10 - 2);
        text("the layout stays", made(x), before);
    }

    private static void settingsOfAllKinds() {
        // By merges, 0 and 2 are at 0 and 1 is at 1000 from both; by tuples all are at 0.
        GuidedAligner x = with("ACA", "CAC", "ACA");
        for (int kind = 15; kind >= 0; kind--) {
            boolean tuples = (kind & 1) != 0;
            boolean neighbours = (kind & 2) != 0;
            boolean weighing = (kind & 4) != 0;
            x.settings(tuples, neighbours, weighing);
            String which = "settings " + tuples + " " + neighbours + " " + weighing;
            same(which + ", distance", x.distance(0, 1), tuples ? 0 : 1000);
            x.align();
            text(which + ", tree", tree(x), tuples || neighbours ? "0,1 2,3" : "0,2 1,3");
            text(which + ", weights", weights(x), weighing && !neighbours && !tuples ? "6 11 6" : "1 1 1");
        }
    }

    // ---- 7 to 9

    private static void wordsFromNoneToFive() {
        GuidedAligner x = new GuidedAligner();
        for (int n = 0; n <= 5; n++) {
            same("words", x.words(), n);
            x.end();
            same("after an end that was refused", x.words(), n);
            x.type('A');
            same("one that is being typed does not count", x.words(), n);
            x.end();
        }
        same("no sixth", x.words(), 5);
        x.align();
        x.settings(true, true, true);
        same("words stay", x.words(), 5);
    }

    private static void pairAtTheEnds() {
        GuidedAligner x = with("AAAAAAAAAAAA", "CCCCCCCCCCCC", "C", "A");
        x.gaps(20, 20);
        x.score(0, 1, 20);
        same("twelve letters at 20", x.pair(0, 1), 240);
        x.score(0, 1, -20);
        same("twelve letters at -20", x.pair(0, 1), -240);
        same("one letter at -20 and a gap of eleven", x.pair(2, 0), -20 - 20 - 11 * 20);
        same("one letter with one", x.pair(3, 2), -20);
        x.gaps(0, 0);
        same("nothing side by side", x.pair(0, 1), 0);
        x.gaps(0, 1);
        same("two gaps of twelve", x.pair(1, 0), -24);
    }

    private static void pairWithoutWeights() {
        GuidedAligner x = with("AAAA", "CCCC");
        x.settings(false, false, true);
        x.align();
        text("weights", weights(x), "11 11");
        same("worth with weights", x.worth(2), 11 * 11 * -16);
        same("pair", x.pair(0, 1), -16);
        same("pair", x.pair(1, 0), -16);
    }

    private static void pairNoWordI() {
        GuidedAligner x = aligned("A", "C", "G");
        x.type('T');
        for (int bad : NO_WORD_OF_THREE) {
            same("word " + bad, x.pair(bad, 0), -1000000);
            same("word " + bad, x.pair(bad, 2), -1000000);
        }
        same("there are five", with("A", "C", "G", "T", "A").pair(5, 0), -1000000);
        same("there is one", with("A").pair(1, 0), -1000000);
    }

    private static void pairNoWordJ() {
        GuidedAligner x = aligned("A", "C", "G");
        x.type('T');
        for (int bad : NO_WORD_OF_THREE) {
            same("word " + bad, x.pair(0, bad), -1000000);
            same("word " + bad, x.pair(2, bad), -1000000);
        }
        same("there are five", with("A", "C", "G", "T", "A").pair(0, 5), -1000000);
        same("there is one", with("A").pair(0, 1), -1000000);
    }

    private static void pairTheSame() {
        GuidedAligner x = with("A", "C", "A");
        for (int i = 0; i < 3; i++) {
            same("word " + i + " twice", x.pair(i, i), -1000000);
        }
        for (int bad : NO_WORD_OF_THREE) {
            same("no word " + bad + " twice", x.pair(bad, bad), -1000000);
        }
        same("two words of the same letters are two", x.pair(0, 2), 5);
    }

    private static void distanceNoWordI() {
        for (int tuples = 0; tuples < 2; tuples++) {
            GuidedAligner x = with("AC", "CC", "GC");
            x.settings(tuples == 1, false, false);
            x.type('T');
            for (int bad : NO_WORD_OF_THREE) {
                same("word " + bad, x.distance(bad, 0), -1);
                same("word " + bad, x.distance(bad, 2), -1);
            }
        }
        same("there are five", with("A", "C", "G", "T", "A").distance(5, 0), -1);
        same("there is one", with("A").distance(1, 0), -1);
    }

    private static void distanceNoWordJ() {
        for (int tuples = 0; tuples < 2; tuples++) {
            GuidedAligner x = with("AC", "CC", "GC");
            x.settings(tuples == 1, false, false);
            x.type('T');
            for (int bad : NO_WORD_OF_THREE) {
                same("word " + bad, x.distance(0, bad), -1);
                same("word " + bad, x.distance(2, bad), -1);
            }
        }
        same("there are five", with("A", "C", "G", "T", "A").distance(0, 5), -1);
        same("there is one", with("A").distance(0, 1), -1);
    }

    private static void distanceTheSame() {
        for (int tuples = 0; tuples < 2; tuples++) {
            GuidedAligner x = with("AC", "CC", "AC");
            x.settings(tuples == 1, false, false);
            for (int i = 0; i < 3; i++) {
                same("word " + i + " twice", x.distance(i, i), -1);
            }
            for (int bad : NO_WORD_OF_THREE) {
                same("no word " + bad + " twice", x.distance(bad, bad), -1);
            }
            same("two words of the same letters are two", x.distance(0, 2), 0);
        }
    }

    // ---- 10 to 13

    private static void alignFromOneColumnToSixty() {
        same("one word of one letter", with("A").align(), 1);
        same("one word of twelve", with(TWELVE).align(), 12);
        same("five words of one letter", with("A", "C", "G", "T", "A").align(), 1);
        same("five words of twelve", with(TWELVE, TWELVE, TWELVE, TWELVE, TWELVE).align(), 12);
        GuidedAligner x = sixtyColumns();
        same("no two letters in one column", x.align(), 60);
        text("tree", tree(x), "0,1 2,3 4,5 6,7");
        text("weights", weights(x), "11 11 11 11 11");
        text("worths", worths(x), "-2904 -2904 -5808 -17424");
        same("total", x.total(), 10 * 11 * 11 * -24);
    }

    /** Letters side by side are so dear that every letter stands alone. */
    private static GuidedAligner sixtyColumns() {
        GuidedAligner x = with(TWELVE, TWELVE, TWELVE, TWELVE, TWELVE);
        for (int a = 0; a < 4; a++) {
            for (int b = a; b < 4; b++) {
                x.score(a, b, -20);
            }
        }
        x.gaps(0, 1);
        x.settings(false, false, true);
        return x;
    }

    private static void alignOnceMore() {
        GuidedAligner x = with("AAG", "CG", "CGG");
        same("without", x.align(), 3);
        String before = made(x);
        same("with", x.align(), 3);
        text("the same again", made(x), before);
        same("refined", x.refine(1), true);
        same("with one that was refined", x.align(), 3);
        text("as made first", made(x), before);
        x.gaps(0, 0);
        same("with other costs", x.align(), 5);
        x.gaps(10, 1);
        same("gone, then made again", x.align(), 3);
        text("as made first", made(x), before);
    }

    private static void alignNoWord() {
        GuidedAligner x = new GuidedAligner();
        same("new", x.align(), -1);
        typeAll(x, "ACG");
        same("letters, but no word", x.align(), -1);
        noLayout(x);
        same("the letters stay", x.end(), 0);
        same("three letters", x.align(), 3);
    }

    private static void columnsNone() {
        GuidedAligner x = with("ACGT", "A");
        same("words, but no layout", x.columns(), 0);
        same("a question makes none", x.pair(0, 1) + x.distance(0, 1), 5 - 13);
        same("a question makes none", x.columns(), 0);
        same("nothing refined", x.refine(0), false);
        same("refining makes none", x.columns(), 0);
        x.align();
        same("four", x.columns(), 4);
        x.score(0, 0, 5);
        same("gone", x.columns(), 0);
        GuidedAligner none = new GuidedAligner();
        none.align();
        same("no word", none.columns(), 0);
    }

    private static void atOfEveryRow() {
        GuidedAligner x = sixtyColumns();
        x.align();
        // 2 and 3 are the left group of the last merge, and 4 is the left one of its right group.
        int[] from = {36, 48, 0, 12, 24};
        for (int i = 0; i < 5; i++) {
            StringBuilder row = new StringBuilder("-".repeat(60));
            row.replace(from[i], from[i] + 12, TWELVE);
            StringBuilder got = new StringBuilder();
            for (int k = 0; k < 60; k++) {
                got.append(x.at(i, k));
            }
            text("row " + i, got.toString(), row.toString());
        }
    }

    private static void atNoRow() {
        same("no layout", with("A", "C").at(0, 0), ' ');
        GuidedAligner x = aligned("A", "C", "G");
        x.type('T');
        for (int bad : NO_WORD_OF_THREE) {
            same("row " + bad, x.at(bad, 0), ' ');
        }
        same("the last row", x.at(2, 0), 'G');
        GuidedAligner five = aligned("A", "C", "G", "T", "A");
        same("the fifth row", five.at(4, 0), 'A');
        same("a sixth row", five.at(5, 0), ' ');
    }

    private static void atNoColumn() {
        GuidedAligner x = aligned("ACGT", "AT");
        for (int bad : new int[] {-1, 4, 5, 12, 59, 60, 61, LEAST, GREATEST}) {
            same("column " + bad, x.at(0, bad), ' ');
            same("column " + bad, x.at(1, bad), ' ');
        }
        same("the last column", x.at(1, 3), 'T');
        GuidedAligner sixty = sixtyColumns();
        sixty.align();
        same("column 59", sixty.at(1, 59), 'T');
        same("column 60", sixty.at(1, 60), ' ');
        sixty.gaps(20, 20);
        same("narrower than before", sixty.align(), 12);
        same("column 12", sixty.at(1, 12), ' ');
        GuidedAligner y = aligned("CAC", "ACCA", "GG");
        same("column 4", y.at(1, 4), 'A');
        same("refined to four columns", y.refine(1), true);
        same("column 4", y.at(1, 4), ' ');
    }

    private static void markAllTheSame() {
        for (int count = 1; count <= 5; count++) {
            GuidedAligner x = new GuidedAligner();
            for (int i = 0; i < count; i++) {
                typeAll(x, "AT");
                x.end();
            }
            x.gaps(20, 20);
            x.score(0, 0, -20);
            x.score(3, 3, 0);
            x.align();
            text(count + " rows, though the scores are not above 0", marks(x), "**");
        }
        GuidedAligner gap = aligned("TAT", "TT");
        text("a gap is not that letter", rows(gap) + " " + marks(gap), "TAT T-T * *");
    }

    private static void markNoneHasAGap() {
        GuidedAligner x = with("TAT", "TCT");
        x.score(0, 1, 1);
        x.align();
        text("without a gap", rows(x) + " " + marks(x), "TAT TCT *:*");
        GuidedAligner y = with("TAT", "TCT", "TT");
        y.score(0, 1, 1);
        y.align();
        text("with a gap", rows(y) + " " + marks(y), "TAT TCT T-T * *");
        GuidedAligner z = with("TAT", "TAT", "TT");
        z.align();
        text("with a gap beside two As", rows(z) + " " + marks(z), "TAT TAT T-T *.*");
    }

    private static void markAllScoresAboveZero() {
        text("A and C at 1", marksOfOneColumn("AC", 1, 5), ":");
        text("A and C at 0", marksOfOneColumn("AC", 0, 5), " ");
        text("A, A and C at 1", marksOfOneColumn("AAC", 1, 5), ":");
        text("A with A at 1", marksOfOneColumn("AAC", 1, 1), ":");
        text("A with A at 0", marksOfOneColumn("AAC", 1, 0), ".");
        text("A with C at 0", marksOfOneColumn("AAC", 0, 5), ".");
        text("no two As", marksOfOneColumn("AC", 1, -20), ":");
        text("C with G is below 0", marksOfOneColumn("ACG", 1, 5), " ");
        text("only the last pair is below 0", marksOfOneColumn("AAACG", 1, 5), ".");
        text("rows 0 and 4 are below 0", marksOfOneColumn("GAACC", 1, 5), " ");
        text("five rows", marksOfOneColumn("ACACA", 20, 20), ":");
    }

    /** The mark of a column with these letters; A has this score with C, and that with itself. */
    private static String marksOfOneColumn(String letters, int withC, int withA) {
        GuidedAligner x = with(letters.split(""));
        x.gaps(20, 20);
        x.score(0, 1, withC);
        x.score(0, 0, withA);
        x.align();
        text("one column", rows(x), String.join(" ", letters.split("")));
        return marks(x);
    }

    private static void markMoreThanHalf() {
        text("one of two", marksOfOneColumn("AC", -4, 5), " ");
        text("two of three", marksOfOneColumn("ACA", -4, 5), ".");
        text("one of three", marksOfOneColumn("ACG", -4, 5), " ");
        text("two of four", marksOfOneColumn("ACAC", -4, 5), " ");
        text("three of four", marksOfOneColumn("CCAC", -4, 5), ".");
        text("two of five", marksOfOneColumn("AACCG", -4, 5), " ");
        text("three of five", marksOfOneColumn("GATGG", -4, 5), ".");
        text("four of five, the last letter", marksOfOneColumn("TTATT", -4, 5), ".");
        GuidedAligner x = aligned("TAT", "TAT", "TT", "TAT", "TT");
        text("three of five beside gaps", rows(x) + " " + marks(x), "TAT TAT T-T TAT T-T *.*");
        GuidedAligner y = aligned("TAT", "TAT", "TT", "TT");
        text("two of four beside gaps", rows(y) + " " + marks(y), "TAT TAT T-T T-T * *");
    }

    private static void markOtherwise() {
        GuidedAligner x = aligned("TAT", "TT", "TT");
        text("more than half are gaps", rows(x) + " " + marks(x), "TAT T-T T-T * *");
        text("all letters", marksOfOneColumn("ACGT", -4, 5), " ");
    }

    private static void markNoColumn() {
        same("no layout", with("A", "A").mark(0), ' ');
        GuidedAligner x = aligned("ACGT", "ACGT");
        for (int bad : new int[] {-1, 4, 5, 12, 59, 60, 61, LEAST, GREATEST}) {
            same("column " + bad, x.mark(bad), ' ');
        }
        same("the last column", x.mark(3), '*');
        x.gaps(10, 1);
        same("gone", x.mark(0), ' ');
        GuidedAligner y = sixtyColumns();
        y.align();
        y.gaps(20, 20);
        y.align();
        same("column 11", y.mark(11), '*');
        same("column 12", y.mark(12), ' ');
    }

    // ---- 14 to 17

    private static void childNoTree() {
        GuidedAligner x = with("A", "C", "G");
        for (int node = 0; node < 6; node++) {
            same("none yet, node " + node, x.child(node, 0), -1);
        }
        x.align();
        same("there is one", x.child(4, 1), 3);
        x.settings(false, false, false);
        same("gone", x.child(4, 1), -1);
        same("new", new GuidedAligner().child(0, 0), -1);
    }

    private static void childNoNode() {
        GuidedAligner five = aligned("A", "A", "A", "A", "A");
        text("the last node is 8", tree(five), "0,1 2,3 4,5 6,7");
        for (int bad : new int[] {-1, 9, 10, 32, LEAST, GREATEST}) {
            same("node " + bad, five.child(bad, 0), -1);
            same("node " + bad, five.child(bad, 1), -1);
        }
        GuidedAligner two = aligned("A", "A");
        same("the last node is 2", two.child(2, 1), 1);
        same("node 3", two.child(3, 0), -1);
        GuidedAligner one = aligned("A");
        same("one word alone", one.child(1, 0), -1);
        GuidedAligner less = aligned("A", "A", "A", "A", "A");
        less.settings(false, true, false);
        same("nodes of an old tree", less.child(8, 0), -1);
    }

    private static void childOfAWord() {
        GuidedAligner x = aligned("A", "A", "A", "A", "A");
        for (int node = 0; node < 5; node++) {
            same("word " + node, x.child(node, 0), -1);
            same("word " + node, x.child(node, 1), -1);
        }
        same("the first node that is none", x.child(5, 0), 0);
        GuidedAligner grown = aligned("A", "A");
        same("node 2 has children", grown.child(2, 0), 0);
        grown.type('A');
        grown.end();
        grown.align();
        same("node 2 is a word now", grown.child(2, 0), -1);
        same("one word alone", aligned("A").child(0, 0), -1);
    }

    private static void childWrongWhich() {
        GuidedAligner x = aligned("A", "A", "A");
        for (int bad : new int[] {-1, 2, 3, 32, LEAST, GREATEST}) {
            same("which " + bad, x.child(3, bad), -1);
            same("which " + bad, x.child(4, bad), -1);
        }
        same("left", x.child(4, 0), 2);
        same("right", x.child(4, 1), 3);
    }

    private static void worthAsMade() {
        GuidedAligner x = aligned("AAG", "CG", "CGG");
        text("before", rows(x) + " " + worths(x), "AAG CG- CGG -1 -11");
        same("refined", x.refine(1), true);
        text("after", rows(x) + " " + worths(x), "AAG C-G CGG -1 -11");
        same("polished", x.polish(), 0);
        text("after", worths(x), "-1 -11");
        x.settings(false, false, true);
        x.align();
        same("with weights", x.worth(3) != -1, true);
    }

    private static void worthNoTree() {
        GuidedAligner x = with("AC", "AC");
        same("none yet", x.worth(2), 0);
        same("pair makes none", x.pair(0, 1), 10);
        same("none yet", x.worth(2), 0);
        x.align();
        same("there is one", x.worth(2), 10);
        x.gaps(10, 1);
        same("gone", x.worth(2), 0);
        same("new", new GuidedAligner().worth(0), 0);
    }

    private static void worthNoNode() {
        GuidedAligner five = aligned("A", "A", "A", "A", "A");
        same("the last node", five.worth(8), 2 * 3 * 5);
        for (int bad : new int[] {-1, 9, 10, 32, LEAST, GREATEST}) {
            same("node " + bad, five.worth(bad), 0);
        }
        GuidedAligner two = aligned("A", "A");
        same("the last node", two.worth(2), 5);
        same("node 3", two.worth(3), 0);
        same("one word alone", aligned("A").worth(1), 0);
    }

    private static void worthOfAWord() {
        GuidedAligner x = aligned("A", "A", "A", "A", "A");
        for (int node = 0; node < 5; node++) {
            same("word " + node, x.worth(node), 0);
        }
        GuidedAligner grown = aligned("A", "A");
        same("node 2 has children", grown.worth(2), 5);
        grown.type('A');
        grown.end();
        grown.align();
        same("node 2 is a word now", grown.worth(2), 0);
        same("one word alone", aligned("A").worth(0), 0);
    }

    private static void weightNoTree() {
        GuidedAligner x = with("A", "C");
        same("none yet", x.weight(0), 0);
        x.settings(false, false, true);
        same("none yet", x.weight(1), 0);
        x.align();
        same("there is one", x.weight(1), 11);
        x.settings(false, false, true);
        same("gone", x.weight(1), 0);
        same("new", new GuidedAligner().weight(0), 0);
    }

    private static void weightNoWord() {
        GuidedAligner x = aligned("A", "C", "G");
        x.type('T');
        for (int bad : NO_WORD_OF_THREE) {
            same("word " + bad, x.weight(bad), 0);
        }
        same("the last word", x.weight(2), 1);
        GuidedAligner five = aligned("A", "C", "G", "T", "A");
        same("the fifth word", five.weight(4), 1);
        same("a sixth", five.weight(5), 0);
    }

    private static void totalNone() {
        GuidedAligner x = with("AC", "AC");
        same("none yet", x.total(), 0);
        x.align();
        same("there is one", x.total(), 10);
        x.score(3, 3, 5);
        same("gone", x.total(), 0);
        same("new", new GuidedAligner().total(), 0);
        same("one row has no pairs", aligned("AC").total(), 0);
    }

    // ---- 18 and 19

    private static void refineTakesColumnsOut() {
        GuidedAligner x = aligned("CAC", "ACCA", "GG");
        text("before", rows(x), "CAC-- -ACCA G---G");
        // Without row 1 no letter is left in column 3.
        same("row 1", x.refine(1), true);
        text("after", rows(x), "CAC- ACCA G--G");
        same("no column of gaps", x.columns(), 4);
    }

    private static void refineOthersAreP() {
        GuidedAligner x = with("GGA", "AA", "GG");
        x.gaps(1, 1);
        x.align();
        text("before", rows(x), "-GGA A--A -GG-");
        // As P the others have their LEFT steps before the RIGHT step with the second A.
        same("row 1", x.refine(1), true);
        text("after", rows(x), "GGA- --AA GG--");
    }

    private static void refineBetter() {
        GuidedAligner x = with("CA", "AG", "A");
        x.settings(false, false, true);
        x.align();
        text("before", rows(x) + " | " + tree(x) + " | " + worths(x) + " | " + weights(x),
            "CA AG -A | 0,2 1,3 | -54 -216 | 3 6 3");
        same("before", x.total(), 3 * 6 * -8 + 3 * 3 * (5 - 11) + 6 * 3 * (-4 - 11));
        same("row 2", x.refine(2), true);
        text("after", rows(x), "CA AG A-");
        same("after", x.total(), 3 * 6 * -8 + 3 * 3 * (-4 - 11) + 6 * 3 * (5 - 11));
        text("tree, worths and weights stay", tree(x) + " | " + worths(x) + " | " + weights(x),
            "0,2 1,3 | -54 -216 | 3 6 3");
        same("row 2 again", x.refine(2), false);
    }

    private static void refineEqual() {
        GuidedAligner x = with("G", "C");
        x.gaps(1, 0);
        x.align();
        text("before", rows(x), "G- -C");
        // Row 0 would come behind row 1, with the same total.
        same("row 0", x.refine(0), false);
        text("after", rows(x) + " " + x.total(), "G- -C -2");
        same("row 1", x.refine(1), false);
        text("after", rows(x) + " " + x.total(), "G- -C -2");
        GuidedAligner y = aligned("GAC", "GCGA", "CAA", "C");
        text("before", rows(y) + " " + y.total(), "GA-C GCGA CA-A ---C -71");
        same("row 3 would go to the front", y.refine(3), false);
        text("after", rows(y) + " " + y.total(), "GA-C GCGA CA-A ---C -71");
        GuidedAligner sixty = sixtyColumns();
        sixty.align();
        same("of sixty columns", sixty.refine(0), false);
        same("after", sixty.at(0, 36), 'G');
        same("after", sixty.at(0, 47), 'T');
        same("after", sixty.at(0, 48), '-');
    }

    private static void refineWorse() {
        GuidedAligner x = with("AA", "A", "G");
        x.gaps(2, 0);
        x.align();
        String before = made(x);
        text("before", rows(x) + " " + x.total(), "-AA -A- G-- -5");
        // The best merge counts an OPEN for all of a group at once: AA -A G- has -7 in all.
        same("row 0", x.refine(0), false);
        text("nothing is changed", made(x), before);
    }

    private static void refineNoLayout() {
        same("new", new GuidedAligner().refine(0), false);
        GuidedAligner x = with("AAG", "CG", "CGG");
        same("words, but none yet", x.refine(1), false);
        same("none is made", x.columns(), 0);
        x.align();
        x.gaps(10, 1);
        same("gone", x.refine(1), false);
        same("none is made", x.columns(), 0);
        x.align();
        same("there is one", x.refine(1), true);
    }

    private static void refineNoRow() {
        GuidedAligner x = aligned("AAG", "CG", "CGG");
        x.type('T');
        String before = made(x);
        for (int bad : NO_WORD_OF_THREE) {
            same("row " + bad, x.refine(bad), false);
            same("row " + bad + ", columns", x.columns(), 3);
        }
        text("nothing is changed", made(x), before);
        GuidedAligner five = aligned("AAG", "CG", "CGG", "AAG", "CGG");
        before = made(five);
        same("a sixth row", five.refine(5), false);
        text("nothing is changed", made(five), before);
    }

    private static void refineOneRow() {
        GuidedAligner x = aligned("GATTACA");
        String before = made(x);
        same("row 0", x.refine(0), false);
        text("nothing is changed", made(x), before);
        GuidedAligner y = aligned("A");
        y.score(0, 0, -20);
        y.align();
        same("row 0", y.refine(0), false);
        text("nothing is changed", made(y), "1 | A | * |  |  | 1 | 0");
    }

    private static void polishInTurn() {
        GuidedAligner x = aligned("AAG", "CG", "CGG");
        same("row 1 alone is better", x.polish(), 1);
        text("after", rows(x) + " | " + tree(x) + " | " + worths(x), "AAG C-G CGG | 1,2 0,3 | -1 -11");
        same("nothing more", x.polish(), 0);
        text("after", rows(x), "AAG C-G CGG");
        // Row 0 under the Cs of rows 2 and 3 is better, and then nothing; with row 1 first it would stay in front.
        GuidedAligner first = aligned("C", "CG", "C", "AC");
        text("before", rows(first), "C- CG -C AC");
        same("row 0 first", first.polish(), 1);
        text("after", rows(first), "-C CG -C AC");
        GuidedAligner last = with("CA", "AG", "A");
        last.settings(false, false, true);
        last.align();
        same("the last row alone is better", last.polish(), 1);
        text("after", rows(last), "CA AG A-");
    }

    private static void polishGoesRound() {
        GuidedAligner x = with("A", "GACG", "GC");
        x.gaps(5, 1);
        x.align();
        GuidedAligner byHand = with("A", "GACG", "GC");
        byHand.gaps(5, 1);
        byHand.align();
        text("before", rows(x), "-A-- GACG G--C");
        String turns = "";
        for (int turn = 0; turn < 7; turn++) {
            turns += byHand.refine(turn % 3) ? "+" : "-";
        }
        text("row 1, then row 0 behind the last one", turns, "-+-+---");
        same("twice", x.polish(), 2);
        text("after", rows(x), "---A GACG G-C-");
        text("as by hand", made(x), made(byHand));
    }

    private static void polishEnds() {
        GuidedAligner inTurn = with("C", "AG", "A", "CCC");
        inTurn.gaps(5, 0);
        inTurn.align();
        text("before", rows(inTurn), "C-- -AG -A- CCC");
        // Rows 0 and 1 false, 2 true, 3 and 0 false: four in all, but not in turn; then row 1 is true.
        same("twice", inTurn.polish(), 2);
        text("after", rows(inTurn), "C-- AG- A-- CCC");
        for (int count = 1; count <= 5; count++) {
            GuidedAligner x = new GuidedAligner();
            for (int i = 0; i < count; i++) {
                typeAll(x, "ACGT");
                x.end();
            }
            x.align();
            String before = made(x);
            same(count + " rows, none better", x.polish(), 0);
            text("nothing is changed", made(x), before);
        }
        GuidedAligner equal = with("G", "C");
        equal.gaps(1, 0);
        equal.align();
        same("rows that would be as good elsewhere", equal.polish(), 0);
        text("nothing is changed", rows(equal), "G- -C");
        GuidedAligner sixty = sixtyColumns();
        sixty.align();
        same("sixty columns", sixty.polish(), 0);
        same("sixty columns", sixty.columns(), 60);
    }

    private static void polishNoLayout() {
        same("new", new GuidedAligner().polish(), -1);
        GuidedAligner x = with("AAG", "CG", "CGG");
        same("words, but none yet", x.polish(), -1);
        same("none is made", x.columns(), 0);
        x.align();
        x.settings(false, false, false);
        same("gone", x.polish(), -1);
        same("none is made", x.columns(), 0);
        same("one row is a layout", aligned("A").polish(), 0);
    }
}
