/**
 * Counts the answers of one test that are not as due, and ends the test. Rows are
 * told under the sentence of the document that they belong to, and a sentence
 * without a row fails, so that none is named and then left untested.
 */
final class Check {
    private static String sentence = "";
    private static int askedOfSentence = 0;
    private static int asked = 0;
    private static int wrong = 0;

    private Check() {
    }

    /** The rows from here to the next sentence would fail if this one were broken. */
    static void sentence(String words) {
        endSentence();
        sentence = words;
        askedOfSentence = 0;
    }

    static void due(String call, long got, long want) {
        asked++;
        askedOfSentence++;
        if (got != want) {
            tell(call + " answered " + got + ", due is " + want);
        }
    }

    static void end() {
        endSentence();
        System.out.println(asked + " answers, " + wrong + " not as due");
        if (asked == 0 || wrong != 0) {
            System.exit(1);
        }
    }

    private static void endSentence() {
        if (!sentence.isEmpty() && askedOfSentence == 0) {
            tell("has no row");
        }
    }

    private static void tell(String fault) {
        wrong++;
        System.out.println("\"" + sentence + "\": " + fault);
    }
}
