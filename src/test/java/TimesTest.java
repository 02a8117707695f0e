import java.util.List;
import java.util.TreeMap;

/** Promise 6: m(s) for every kept shape, every by and every s. */
public final class TimesTest {
    public static void main(String[] args) {
        everyProduct();
        noShape();
        tooManyCells();
        otherCellsAreNotRefused();
        Check.end();
    }

    private static void everyProduct() {
        Check.sentence("the number of times m(s) of the shape s");
        for (int[] pair : Plain.pairs()) {
            TreeMap<Integer, Integer> product = Plain.product(pair[0], pair[1]);
            for (int s : Plain.shapes()) {
                Rows.times(pair[0], pair[1], s, product.getOrDefault(s, 0));
            }
        }
        Rows.times(0, 0, 0, 1);
        Rows.times(111, 111, 222, 1);
        Rows.times(111, 111, 321, 0);
        Rows.times(210, 210, 321, 2);
        Rows.times(210, 210, 222, 1);
        Rows.times(300, 300, 600, 1);
        Rows.times(300, 300, 321, 0);
    }

    private static void noShape() {
        Check.sentence("-1 if by or s is no shape");
        List<Integer> numbers = Plain.allBut(Plain.shapes());
        for (int kept : Plain.shapes()) {
            for (int number : numbers) {
                Rows.times(kept, number, kept, -1);
                Rows.times(kept, 0, number, -1);
                Rows.times(kept, number, number, -1);
            }
        }
    }

    private static void tooManyCells() {
        Check.sentence("or the kept shape and by have together more than 6 cells");
        for (int kept : Plain.shapes()) {
            for (int by : Plain.shapes()) {
                if (Plain.cells(kept) + Plain.cells(by) > 6) {
                    for (int s : Plain.shapes()) {
                        Rows.times(kept, by, s, -1);
                    }
                    Rows.times(kept, by, 700, -1);
                }
            }
        }
    }

    private static void otherCellsAreNotRefused() {
        Check.sentence("only shapes with as many cells as the two together have m(s) > 0");
        Rows.times(210, 300, 0, 0);
        Rows.times(210, 100, 210, 0);
        Rows.times(210, 100, 311, 0);
        Rows.times(0, 0, 100, 0);
        Rows.times(600, 0, 500, 0);
    }
}
