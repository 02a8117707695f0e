/** Promise 7: the sum of all m(s). */
public final class PartsTest {
    public static void main(String[] args) {
        everyProduct();
        fewestAndMost();
        refused();
        Check.end();
    }

    private static void everyProduct() {
        Check.sentence("The sum of all m(s) in that product");
        for (int[] pair : Plain.pairs()) {
            int sum = 0;
            for (int m : Plain.product(pair[0], pair[1]).values()) {
                sum += m;
            }
            Rows.parts(pair[0], pair[1], sum);
        }
    }

    // 210 by 210 has five shapes, one of them twice: each time counts.
    private static void fewestAndMost() {
        Check.sentence("The sum of all m(s) in that product: the fewest and the most");
        Rows.parts(0, 0, 1);
        Rows.parts(0, 600, 1);
        Rows.parts(600, 0, 1);
        Rows.parts(111, 111, 1);
        Rows.parts(300, 300, 4);
        Rows.parts(210, 210, 6);
    }

    private static void refused() {
        Check.sentence("parts: -1");
        for (int kept : Plain.shapes()) {
            for (int by : Plain.refusedBy(kept)) {
                Rows.parts(kept, by, -1);
            }
        }
        Rows.parts(600, 100, -1);
        Rows.parts(100, 600, -1);
        Rows.parts(210, 400, -1);
    }
}
