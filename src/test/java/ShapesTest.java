/** Terms: which numbers are shapes, wherever a call takes one. */
public final class ShapesTest {
    public static void main(String[] args) {
        rowsNeverGrowDownwards();
        noRowIsBelowZero();
        atMostSixCells();
        writtenInOneWay();
        cellsOfARow();
        Check.end();
    }

    private static void rowsNeverGrowDownwards() {
        Check.sentence("SHAPES are rows of three numbers p0 >= p1 >= p2");
        for (int equal : new int[] {0, 100, 110, 111, 200, 211, 220, 221, 222, 330, 411}) {
            isShape(equal);
        }
        for (int longer : new int[] {1, 10, 11, 12, 21, 101, 102, 112, 120, 121, 122, 201, 202,
                                     212, 230, 301, 302, 312, 240, 15, 51, 6, 60, 105, 501}) {
            isNone(longer);
        }
    }

    private static void noRowIsBelowZero() {
        Check.sentence("p2 >= 0");
        isShape(100);
        isShape(110);
        int[][] below = {{0, 0, -1}, {0, -1, -1}, {-1, -1, -1}, {-1, 0, 0}, {0, -1, 0}, {1, 0, -1},
                         {1, 1, -1}, {1, -1, -1}, {2, 1, -1}, {3, 3, -1}, {6, 0, -1}, {6, 1, -1},
                         {7, 0, -1}, {-2, -1, 0}, {-2, -2, -2}};
        for (int[] p : below) {
            isNone(100 * p[0] + 10 * p[1] + p[2]);
        }
    }

    private static void atMostSixCells() {
        Check.sentence("with p0 + p1 + p2 <= 6");
        for (int six : new int[] {222, 321, 330, 411, 420, 510, 600}) {
            isShape(six);
        }
        for (int seven : new int[] {322, 331, 421, 430, 511, 520, 610, 700}) {
            isNone(seven);
        }
        for (int more : new int[] {332, 333, 440, 611, 620, 660, 666, 710, 800, 900, 990, 999}) {
            isNone(more);
        }
    }

    private static void writtenInOneWay() {
        Check.sentence("they are written as 100 * p0 + 10 * p1 + p2");
        for (int shape : Plain.shapes()) {
            isShape(shape);
        }
        for (int number : Plain.allBut(Plain.shapes())) {
            isNone(number);
        }
    }

    private static void cellsOfARow() {
        Check.sentence("The CELLS of a shape are (i, j) with i from 0 to 2 and j from 0 to pi - 1");
        int[][] cells = {{0, 0}, {100, 1}, {110, 2}, {111, 3}, {200, 2}, {211, 4}, {221, 5},
                         {222, 6}, {321, 6}, {500, 5}, {600, 6}};
        for (int[] row : cells) {
            Check.due("keep(" + row[0] + ")", new TableauDesk().keep(row[0]), row[1]);
        }
    }

    private static void isShape(int number) {
        TableauDesk empty = new TableauDesk();
        Check.due("times(" + number + ", " + number + ") of 0", empty.times(number, number), 1);
        Check.due("parts(" + number + ") of 0", empty.parts(number), 1);
        Check.due("greatest(" + number + ") of 0", empty.greatest(number), number);
        Check.due("keep(" + number + ")", empty.keep(number), Plain.cells(number));
    }

    private static void isNone(int number) {
        TableauDesk empty = new TableauDesk();
        Check.due("times(" + number + ", 0) of 0", empty.times(number, 0), -1);
        Check.due("times(0, " + number + ") of 0", empty.times(0, number), -1);
        Check.due("parts(" + number + ") of 0", empty.parts(number), -1);
        Check.due("greatest(" + number + ") of 0", empty.greatest(number), -1);
        Check.due("keep(" + number + ")", empty.keep(number), -1);
    }
}
