import java.util.List;
import java.util.TreeMap;

/** Promise 4, and how a content is written: for every content and for what is none. */
public final class WithContentTest {
    public static void main(String[] args) {
        everyContent();
        noneAndMost();
        eachFromZeroToSix();
        refused();
        Check.end();
    }

    private static void everyContent() {
        Check.sentence("How many fillings of the kept shape have the content");
        for (int shape : Plain.shapes()) {
            TreeMap<Integer, Integer> counts = Plain.polynomial(shape);
            TableauDesk desk = Plain.keeping(shape);
            for (int content : Plain.contents()) {
                Check.due("withContent(" + content + ") of " + shape,
                    desk.withContent(content), counts.getOrDefault(content, 0));
            }
        }
    }

    private static void noneAndMost() {
        Check.sentence("How many fillings of the kept shape have the content: none and the most");
        Rows.withContent(0, 0, 1);
        Rows.withContent(110, 200, 0);
        Rows.withContent(321, 411, 0);
        Rows.withContent(222, 321, 0);
        Rows.withContent(600, 600, 1);
        Rows.withContent(600, 6, 1);
        Rows.withContent(321, 222, 2);
        Rows.withContent(420, 222, 3);
    }

    private static void eachFromZeroToSix() {
        Check.sentence("a content is written as 100 * c1 + 10 * c2 + c3 (each from 0 to 6)");
        for (int last : new int[] {0, 6, 60, 600, 66, 606, 660, 666}) {
            boolean of600 = last == 6 || last == 60 || last == 600;
            Rows.withContent(0, last, last == 0 ? 1 : 0);
            Rows.withContent(600, last, of600 ? 1 : 0);
        }
        for (int over : new int[] {7, 70, 700, 17, 107, 170, 71, 701, 710, 67, 607, 670, 76, 706, 760,
                                   667, 676, 766, 777, 8, 9, 80, 90, 800, 900, 99, 999, 1000}) {
            Rows.withContent(0, over, -1);
            Rows.withContent(600, over, -1);
        }
        for (int below : new int[] {-1, -10, -100, -6, -60, -600, -111, -666}) {
            Rows.withContent(0, below, -1);
            Rows.withContent(600, below, -1);
        }
    }

    private static void refused() {
        Check.sentence("withContent: -1");
        List<Integer> none = Plain.allBut(Plain.contents());
        for (int shape : Plain.shapes()) {
            for (int number : none) {
                Rows.withContent(shape, number, -1);
            }
        }
    }
}
