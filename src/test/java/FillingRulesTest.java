/** Terms: what makes a filling, at the edges of each of its rules. */
public final class FillingRulesTest {
    public static void main(String[] args) {
        numbersFromOneToThree();
        rowsNeverFall();
        columnsRise();
        Check.end();
    }

    private static void numbersFromOneToThree() {
        Check.sentence("A FILLING of a shape gives each cell a number from 1 to 3");
        Rows.fillings(100, 3);
        Rows.withContent(100, 100, 1);
        Rows.withContent(100, 10, 1);
        Rows.withContent(100, 1, 1);
        Rows.withContent(100, 0, 0);
        Rows.fillings(111, 1);
        Rows.fillings(0, 1);
    }

    private static void rowsNeverFall() {
        Check.sentence("numbers never fall from left to right in a row");
        for (int equal : new int[] {200, 20, 2}) {
            Rows.withContent(200, equal, 1);
        }
        for (int rising : new int[] {110, 101, 11}) {
            Rows.withContent(200, rising, 1);
        }
        Rows.fillings(200, 6);
        for (int equal : new int[] {600, 60, 6}) {
            Rows.withContent(600, equal, 1);
        }
        Rows.withContent(600, 222, 1);
        Rows.withContent(220, 220, 1);
        Rows.withContent(222, 222, 1);
    }

    private static void columnsRise() {
        Check.sentence("and rise from each cell to the one below it");
        for (int equal : new int[] {200, 20, 2}) {
            Rows.withContent(110, equal, 0);
        }
        for (int rising : new int[] {110, 101, 11}) {
            Rows.withContent(110, rising, 1);
        }
        Rows.fillings(110, 3);
        Rows.withContent(111, 111, 1);
        for (int twice : new int[] {210, 201, 120, 21, 102, 12, 300, 30, 3}) {
            Rows.withContent(111, twice, 0);
        }
        Rows.withContent(210, 111, 2);
        Rows.withContent(210, 300, 0);
        Rows.withContent(220, 211, 1);
        Rows.withContent(220, 310, 0);
        Rows.withContent(222, 321, 0);
    }
}
