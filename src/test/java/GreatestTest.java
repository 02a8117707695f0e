/** Promise 8: the greatest shape of a product. */
public final class GreatestTest {
    public static void main(String[] args) {
        for (int kept : Plain.shapes()) {
            TableauDesk desk = Plain.keeping(kept);
            for (int by : Plain.shapes()) {
                boolean fits = Plain.cells(kept) + Plain.cells(by) <= 6;
                int want = fits ? Plain.product(kept, by).lastKey() : -1;
                Check.due("greatest(" + by + ") of " + kept, desk.greatest(by), want);
            }
        }
        for (int number : Plain.allBut(Plain.shapes())) {
            Check.due("greatest(" + number + ") of 0", new TableauDesk().greatest(number), -1);
            Check.due("greatest(" + number + ") of 210", Plain.keeping(210).greatest(number), -1);
        }
        Check.due("greatest(0) of 0", Plain.keeping(0).greatest(0), 0);
        Check.due("greatest(210) of 210", Plain.keeping(210).greatest(210), 420);
        Check.end();
    }
}
