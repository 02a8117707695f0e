/** Promise 8: the greatest shape of a product. */
public final class GreatestTest {
    public static void main(String[] args) {
        everyProduct();
        leastAndGreatest();
        refused();
        Check.end();
    }

    private static void everyProduct() {
        Check.sentence("The greatest shape s (as a number) with m(s) > 0 in that product");
        for (int[] pair : Plain.pairs()) {
            Rows.greatest(pair[0], pair[1], Plain.product(pair[0], pair[1]).lastKey());
        }
    }

    private static void leastAndGreatest() {
        Check.sentence("The greatest shape s with m(s) > 0: the first and the last of all shapes");
        Rows.greatest(0, 0, 0);
        Rows.greatest(0, 100, 100);
        Rows.greatest(100, 0, 100);
        Rows.greatest(111, 111, 222);
        Rows.greatest(210, 210, 420);
        Rows.greatest(300, 300, 600);
        Rows.greatest(0, 600, 600);
        Rows.greatest(600, 0, 600);
    }

    private static void refused() {
        Check.sentence("greatest: -1");
        for (int kept : Plain.shapes()) {
            for (int by : Plain.refusedBy(kept)) {
                Rows.greatest(kept, by, -1);
            }
        }
        Rows.greatest(600, 100, -1);
        Rows.greatest(100, 600, -1);
        Rows.greatest(110, 222, -1);
    }
}
