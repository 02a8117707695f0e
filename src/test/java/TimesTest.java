import java.util.TreeMap;

/** Promise 6: m(s) for every kept shape, every by and every s. */
public final class TimesTest {
    public static void main(String[] args) {
        for (int kept : Plain.shapes()) {
            for (int by : Plain.shapes()) {
                if (Plain.cells(kept) + Plain.cells(by) <= 6) {
                    fits(kept, by);
                } else {
                    tooManyCells(kept, by);
                }
            }
        }
        for (int number : Plain.allBut(Plain.shapes())) {
            noShape(number);
        }
        Check.due("times(210, 321) of 210", Plain.keeping(210).times(210, 321), 2);
        Check.end();
    }

    private static void fits(int kept, int by) {
        TreeMap<Integer, Integer> product = Plain.product(kept, by);
        TableauDesk desk = Plain.keeping(kept);
        for (int s : Plain.shapes()) {
            Check.due("times(" + by + ", " + s + ") of " + kept,
                desk.times(by, s), product.getOrDefault(s, 0));
        }
    }

    private static void tooManyCells(int kept, int by) {
        TableauDesk desk = Plain.keeping(kept);
        for (int s : Plain.shapes()) {
            Check.due("times(" + by + ", " + s + ") of " + kept, desk.times(by, s), -1);
        }
    }

    private static void noShape(int number) {
        TableauDesk empty = new TableauDesk();
        Check.due("times(" + number + ", 210) of 0", empty.times(number, 210), -1);
        Check.due("times(210, " + number + ") of 0", empty.times(210, number), -1);
        Check.due("times(" + number + ", " + number + ") of 0", empty.times(number, number), -1);
        TableauDesk full = Plain.keeping(321);
        Check.due("times(0, " + number + ") of 321", full.times(0, number), -1);
        Check.due("times(" + number + ", 321) of 321", full.times(number, 321), -1);
    }
}
