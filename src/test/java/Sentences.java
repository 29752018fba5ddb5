import java.io.IOException;

/**
 * Tests that each stand for words of the document: a test whose words are not there is a fault, and so
 * are words for which no test stands.
 */
abstract class Sentences extends Asked {
    private static Document document;
    private static String heading = "";
    private static int tests;

    static void open() throws IOException {
        document = new Document();
    }

    /** What follows is said under this heading, all of whose words must have been spoken for as the next one begins. */
    static void under(String next) {
        endHeading();
        heading = next;
    }

    static void endHeading() {
        at(heading);
        String left = heading.isEmpty() ? "" : document.left(heading);
        if (!left.isEmpty()) {
            fault("no test stands for: " + left);
        }
        heading = "";
    }

    static void endSentences() {
        endHeading();
        endWith(tests + " sentences");
    }

    static void sentence(String words, Runnable test) {
        find(heading, words);
        run(words, test);
    }

    /** Words that stand outside the headings that are gone through whole. */
    static void sentenceUnder(String other, String words, Runnable test) {
        find(other, words);
        run(words, test);
    }

    /** Words that only give a name, or say what others say, so that there is nothing to be tested by themselves. */
    static void onlyNames(String words) {
        find(heading, words);
    }

    private static void find(String where, String words) {
        at(where + ", \"" + words + "\"");
        if (!document.mark(where, words)) {
            fault("these are not the document's words");
        }
    }

    private static void run(String words, Runnable test) {
        tests++;
        int before = askedSoFar();
        try {
            test.run();
        } catch (RuntimeException e) {
            fault("it threw " + e);
        }
        if (askedSoFar() == before) {
            fault("it was not asked for");
        }
    }
}
