/** Promise 3: the number of fillings of each shape. */
public final class FillingsTest {
    public static void main(String[] args) {
        everyShape();
        edges();
        Check.end();
    }

    private static void everyShape() {
        Check.sentence("How many fillings the kept shape has.");
        for (int shape : Plain.shapes()) {
            int want = 0;
            for (int count : Plain.polynomial(shape).values()) {
                want += count;
            }
            TableauDesk desk = Plain.keeping(shape);
            Check.due("fillings() of " + shape, desk.fillings(), want);
            Check.due("fillings() of " + shape + " again", desk.fillings(), want);
        }
    }

    // The empty shape has one filling, the one with no cell; no shape has none.
    private static void edges() {
        Check.sentence("How many fillings the kept shape has: the fewest and the most");
        Rows.fillings(0, 1);
        Rows.fillings(111, 1);
        Rows.fillings(222, 1);
        Rows.fillings(100, 3);
        Rows.fillings(210, 8);
        Rows.fillings(420, 27);
        Rows.fillings(600, 28);
        Rows.fillings(510, 35);
    }
}
