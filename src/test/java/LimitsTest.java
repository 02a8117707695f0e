/** Promise 10: a content of another number of cells is answered with 0, not refused. */
public final class LimitsTest {
    public static void main(String[] args) {
        everyOtherNumberOfCells();
        edges();
        Check.end();
    }

    private static void everyOtherNumberOfCells() {
        Check.sentence("a content of another number of cells than the kept shape has is not refused: 0");
        for (int shape : Plain.shapes()) {
            for (int content : Plain.contents()) {
                if (Plain.cells(content) != Plain.cells(shape)) {
                    Rows.withContent(shape, content, 0);
                }
            }
        }
    }

    // One cell fewer, one more, none at all, and as many as a content can tell.
    private static void edges() {
        Check.sentence("a content of another number of cells: the nearest and the farthest");
        Rows.withContent(210, 110, 0);
        Rows.withContent(210, 111, 2);
        Rows.withContent(210, 211, 0);
        Rows.withContent(321, 0, 0);
        Rows.withContent(321, 221, 0);
        Rows.withContent(321, 322, 0);
        Rows.withContent(600, 601, 0);
        Rows.withContent(0, 1, 0);
        Rows.withContent(0, 601, 0);
        Rows.withContent(0, 666, 0);
        Rows.withContent(321, 666, 0);
        Rows.withContent(321, 667, -1);
    }
}
