/**
 * What the tests by hand share: objects to ask, what can be seen of them, and the answers that were not as due.
 * The tests extend it because nothing can be imported from a class without a package.
 */
abstract class Checks {
    static final int LEAST = Integer.MIN_VALUE;
    static final int GREATEST = Integer.MAX_VALUE;

    private static int sentences = 0;
    private static int wrong = 0;
    private static String sentence = "";

    /** Tests one sentence of the document, which is named in front of every wrong answer. */
    static void sentence(String words, Runnable test) {
        sentences++;
        sentence = words;
        try {
            test.run();
        } catch (RuntimeException thrown) {
            text("it throws", "" + thrown, "nothing thrown");
        }
    }

    static void finish() {
        System.out.println(sentences + " sentences tested, " + wrong + " answers not as due");
        if (wrong != 0) {
            System.exit(1);
        }
    }

    static void same(String what, boolean got, boolean want) {
        text(what, "" + got, "" + want);
    }

    static void same(String what, int got, int want) {
        text(what, "" + got, "" + want);
    }

    static void same(String what, char got, char want) {
        text(what, "" + got, "" + want);
    }

    static void text(String what, String got, String want) {
        if (!got.equals(want)) {
            wrong++;
            System.out.println(sentence + " | " + what + ": got '" + got + "', due is '" + want + "'");
        }
    }

    static GuidedAligner with(String... words) {
        GuidedAligner x = new GuidedAligner();
        for (String word : words) {
            typeAll(x, word);
            x.end();
        }
        return x;
    }

    static GuidedAligner aligned(String... words) {
        GuidedAligner x = with(words);
        x.align();
        return x;
    }

    static void typeAll(GuidedAligner x, String letters) {
        for (char c : letters.toCharArray()) {
            x.type(c);
        }
    }

    // Asked once each, since an object is used for 512 calls only.
    static String rows(GuidedAligner x) {
        int words = x.words();
        int columns = x.columns();
        StringBuilder text = new StringBuilder();
        for (int i = 0; i < words; i++) {
            text.append(i == 0 ? "" : " ");
            for (int k = 0; k < columns; k++) {
                text.append(x.at(i, k));
            }
        }
        return text.toString();
    }

    static String marks(GuidedAligner x) {
        int columns = x.columns();
        StringBuilder text = new StringBuilder();
        for (int k = 0; k < columns; k++) {
            text.append(x.mark(k));
        }
        return text.toString();
    }

    /** The children of every node that has some, as in "0,1 2,3". */
    static String tree(GuidedAligner x) {
        StringBuilder text = new StringBuilder();
        for (int node = x.words(); node < 2 * x.words() - 1; node++) {
            text.append(text.length() == 0 ? "" : " ").append(x.child(node, 0)).append(',').append(x.child(node, 1));
        }
        return text.toString();
    }

    static String worths(GuidedAligner x) {
        StringBuilder text = new StringBuilder();
        for (int node = x.words(); node < 2 * x.words() - 1; node++) {
            text.append(text.length() == 0 ? "" : " ").append(x.worth(node));
        }
        return text.toString();
    }

    static String weights(GuidedAligner x) {
        StringBuilder text = new StringBuilder();
        for (int i = 0; i < x.words(); i++) {
            text.append(text.length() == 0 ? "" : " ").append(x.weight(i));
        }
        return text.toString();
    }

    /** The layout, the tree and all that hangs on them. */
    static String made(GuidedAligner x) {
        return x.columns() + " | " + rows(x) + " | " + marks(x) + " | " + tree(x) + " | " + worths(x)
            + " | " + weights(x) + " | " + x.total();
    }

    static void noLayout(GuidedAligner x) {
        same("no columns", x.columns(), 0);
        same("no row", x.at(0, 0), ' ');
        same("no mark", x.mark(0), ' ');
        same("no weight", x.weight(0), 0);
        same("no total", x.total(), 0);
        same("nothing to refine", x.refine(0), false);
        same("nothing to polish", x.polish(), -1);
        for (int node = -1; node < 10; node++) {
            same("no children", x.child(node, 0), -1);
            same("no worth", x.worth(node), 0);
        }
    }
}
