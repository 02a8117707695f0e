/** Promise 7: the sum of all m(s). */
public final class PartsTest {
    public static void main(String[] args) {
        for (int kept : Plain.shapes()) {
            TableauDesk desk = Plain.keeping(kept);
            for (int by : Plain.shapes()) {
                Check.due("parts(" + by + ") of " + kept, desk.parts(by), want(kept, by));
            }
        }
        for (int number : Plain.allBut(Plain.shapes())) {
            Check.due("parts(" + number + ") of 0", new TableauDesk().parts(number), -1);
            Check.due("parts(" + number + ") of 210", Plain.keeping(210).parts(number), -1);
        }
        Check.due("parts(210) of 210", Plain.keeping(210).parts(210), 6);
        Check.due("parts(300) of 300", Plain.keeping(300).parts(300), 4);
        Check.end();
    }

    private static int want(int kept, int by) {
        if (Plain.cells(kept) + Plain.cells(by) > 6) {
            return -1;
        }
        int sum = 0;
        for (int m : Plain.product(kept, by).values()) {
            sum += m;
        }
        return sum;
    }
}
