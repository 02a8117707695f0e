/** Promise 5: ways to number the cells from 1 to n. */
public final class OrdersTest {
    public static void main(String[] args) {
        for (int shape : Plain.shapes()) {
            Check.due("orders() of " + shape, Plain.keeping(shape).orders(), Plain.orders(shape));
        }
        Check.due("orders() of 0", Plain.keeping(0).orders(), 1);
        Check.due("orders() of 111", Plain.keeping(111).orders(), 1);
        Check.due("orders() of 411", Plain.keeping(411).orders(), 10);
        Check.due("orders() of 420", Plain.keeping(420).orders(), 9);
        Check.due("orders() of 321", Plain.keeping(321).orders(), 16);
        Check.end();
    }
}
