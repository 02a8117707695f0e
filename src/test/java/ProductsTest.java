import java.util.TreeMap;

/** Terms: the product of two polynomials, at the edges that its sentences name. */
public final class ProductsTest {
    public static void main(String[] args) {
        atMostSixCellsTogether();
        inExactlyOneWay();
        neverBelowZero();
        onlyShapesOfAsManyCells();
        Check.end();
    }

    private static void atMostSixCellsTogether() {
        Check.sentence("two shapes with together at most 6 cells");
        int[][] six = {{0, 600}, {600, 0}, {100, 500}, {500, 100}, {110, 400}, {300, 300},
                       {111, 111}, {210, 210}, {211, 110}, {321, 0}, {0, 222}, {100, 221}};
        for (int[] pair : six) {
            answered(pair[0], pair[1]);
        }
        int[][] seven = {{100, 600}, {600, 100}, {200, 500}, {500, 200}, {300, 400}, {400, 300},
                         {111, 211}, {211, 210}, {222, 100}, {100, 321}, {110, 221}, {320, 110}};
        for (int[] pair : seven) {
            refused(pair[0], pair[1]);
        }
        refused(600, 600);
        refused(222, 222);
    }

    // The rows of both added up always make a shape of the product, its greatest.
    private static void answered(int kept, int by) {
        Rows.times(kept, by, kept + by, 1);
        Rows.greatest(kept, by, kept + by);
        Check.due("parts(" + by + ") > 0 of " + kept, Plain.keeping(kept).parts(by) > 0 ? 1 : 0, 1);
    }

    private static void refused(int kept, int by) {
        Rows.times(kept, by, by, -1);
        Rows.greatest(kept, by, -1);
        Rows.parts(kept, by, -1);
    }

    /** The product multiplied out must be the sum of the shapes that the desk tells. */
    private static void inExactlyOneWay() {
        Check.sentence("is in exactly one way a sum of polynomials of shapes");
        for (int[] pair : Plain.pairs()) {
            TableauDesk desk = Plain.keeping(pair[0]);
            TreeMap<Integer, Integer> sum = new TreeMap<>();
            for (int s : Plain.shapes()) {
                int m = desk.times(pair[1], s);
                Plain.polynomial(s).forEach((content, count) ->
                    sum.merge(content, m * count, Integer::sum));
            }
            sum.values().removeIf(count -> count == 0);
            boolean same = sum.equals(Plain.multiplied(pair[0], pair[1]));
            Check.due("product of " + pair[0] + " and " + pair[1], same ? 1 : 0, 1);
        }
    }

    private static void neverBelowZero() {
        Check.sentence("each shape s with a number of times m(s) (an int, 0 or more)");
        for (int[] pair : Plain.pairs()) {
            TableauDesk desk = Plain.keeping(pair[0]);
            for (int s : Plain.shapes()) {
                Check.due("times(" + pair[1] + ", " + s + ") >= 0 of " + pair[0],
                    desk.times(pair[1], s) >= 0 ? 1 : 0, 1);
            }
        }
        Rows.times(210, 210, 510, 0);
        Rows.times(210, 210, 420, 1);
        Rows.times(210, 210, 321, 2);
    }

    private static void onlyShapesOfAsManyCells() {
        Check.sentence("only shapes with as many cells as the two together have m(s) > 0");
        for (int[] pair : Plain.pairs()) {
            int together = Plain.cells(pair[0]) + Plain.cells(pair[1]);
            TableauDesk desk = Plain.keeping(pair[0]);
            for (int s : Plain.shapes()) {
                if (Plain.cells(s) != together) {
                    Check.due("times(" + pair[1] + ", " + s + ") of " + pair[0],
                        desk.times(pair[1], s), 0);
                }
            }
        }
    }
}
