/** Rows of the tests: one call on a new object that keeps a shape, and the answer due. */
final class Rows {
    private Rows() {
    }

    static void fillings(int kept, int want) {
        Check.due("fillings() of " + kept, Plain.keeping(kept).fillings(), want);
    }

    static void withContent(int kept, int content, int want) {
        Check.due("withContent(" + content + ") of " + kept,
            Plain.keeping(kept).withContent(content), want);
    }

    static void orders(int kept, int want) {
        Check.due("orders() of " + kept, Plain.keeping(kept).orders(), want);
    }

    static void times(int kept, int by, int s, int want) {
        Check.due("times(" + by + ", " + s + ") of " + kept, Plain.keeping(kept).times(by, s), want);
    }

    static void parts(int kept, int by, int want) {
        Check.due("parts(" + by + ") of " + kept, Plain.keeping(kept).parts(by), want);
    }

    static void greatest(int kept, int by, int want) {
        Check.due("greatest(" + by + ") of " + kept, Plain.keeping(kept).greatest(by), want);
    }

    static void turned(int kept, int want) {
        Check.due("turned() of " + kept, Plain.keeping(kept).turned(), want);
    }
}
