/** Promise 3: the number of fillings of each shape. */
public final class FillingsTest {
    public static void main(String[] args) {
        for (int shape : Plain.shapes()) {
            int want = 0;
            for (int count : Plain.polynomial(shape).values()) {
                want += count;
            }
            TableauDesk desk = Plain.keeping(shape);
            Check.due("fillings() of " + shape, desk.fillings(), want);
            Check.due("fillings() of " + shape + " again", desk.fillings(), want);
        }
        Check.due("fillings() of 100", Plain.keeping(100).fillings(), 3);
        Check.due("fillings() of 111", Plain.keeping(111).fillings(), 1);
        Check.due("fillings() of 210", Plain.keeping(210).fillings(), 8);
        Check.due("fillings() of 420", Plain.keeping(420).fillings(), 27);
        Check.due("fillings() of 600", Plain.keeping(600).fillings(), 28);
        Check.end();
    }
}
