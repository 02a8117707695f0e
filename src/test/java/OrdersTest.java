/** Promise 5: ways to number the cells from 1 to n. */
public final class OrdersTest {
    public static void main(String[] args) {
        everyShape();
        edges();
        Check.end();
    }

    private static void everyShape() {
        Check.sentence("How many ways there are to give the kept shape's n cells the numbers 1 to n");
        for (int shape : Plain.shapes()) {
            TableauDesk desk = Plain.keeping(shape);
            Check.due("orders() of " + shape, desk.orders(), Plain.orders(shape));
            Check.due("orders() of " + shape + " again", desk.orders(), Plain.orders(shape));
        }
    }

    // No cell, one cell, one row and one column can be numbered in one way only.
    private static void edges() {
        Check.sentence("each once, so that numbers rise along rows and down columns");
        int[][] due = {{0, 1}, {100, 1}, {200, 1}, {600, 1}, {110, 1}, {111, 1},
                       {210, 2}, {220, 2}, {222, 5}, {330, 5}, {420, 9}, {411, 10}, {321, 16}};
        for (int[] row : due) {
            Rows.orders(row[0], row[1]);
        }
    }
}
