/** Fillings of small shapes with numbers, and how products of shapes fall apart. */
public final class TableauDesk {
    private static final int REFUSED = -1;
    private static final int MOST_CELLS = 6;
    private static final int MOST_ROWS = 3;
    private static final int LAST_SHAPE = 600;
    private static final int LAST_CONTENT = 666;

    private int kept;

    public TableauDesk() {
        kept = 0;
    }

    public int keep(int shape) {
        if (!isShape(shape)) {
            return REFUSED;
        }
        kept = shape;
        return cellsOf(shape);
    }

    public int fillings() {
        int count = 0;
        for (int content = 0; content <= LAST_CONTENT; content++) {
            if (isContent(content)) {
                count += fillingsWithWritten(content);
            }
        }
        return count;
    }

    public int withContent(int content) {
        if (!isContent(content)) {
            return REFUSED;
        }
        return fillingsWithWritten(content);
    }

    // Frobenius' formula: n! times the differences of the shifted rows, over the
    // factorials of the shifted rows. The whole division leaves no rest, so rests
    // dropped on its way do no harm, and 6 cells stay far from the end of int.
    public int orders() {
        int a = digit(kept, 0) + 2;
        int b = digit(kept, 1) + 1;
        int c = digit(kept, 2);
        int cells = cellsOf(kept);
        int ways = factorial(cells) * (a - b) * (a - c) * (b - c);
        ways = overFactorial(ways, a);
        ways = overFactorial(ways, b);
        return overFactorial(ways, c);
    }

    public int times(int by, int s) {
        if (!canMultiply(by) || !isShape(s)) {
            return REFUSED;
        }
        return timesInProduct(by, s);
    }

    public int parts(int by) {
        if (!canMultiply(by)) {
            return REFUSED;
        }
        int sum = 0;
        for (int s = 0; s <= LAST_SHAPE; s++) {
            if (isShape(s)) {
                sum += timesInProduct(by, s);
            }
        }
        return sum;
    }

    public int greatest(int by) {
        if (!canMultiply(by)) {
            return REFUSED;
        }
        for (int s = LAST_SHAPE; s > 0; s--) {
            if (isShape(s) && timesInProduct(by, s) > 0) {
                return s;
            }
        }
        // No product is without a part, so here it is the empty shape alone.
        return 0;
    }

    public int turned() {
        if (digit(kept, 0) > MOST_ROWS) {
            return REFUSED;
        }
        return 100 * columnLength(0) + 10 * columnLength(1) + columnLength(2);
    }

    private static int digit(int written, int place) {
        if (place == 0) {
            return written / 100;
        }
        return place == 1 ? written / 10 % 10 : written % 10;
    }

    // Shapes and contents have no number above 6, so each is written with one
    // digit a number, in one way only.
    private static int cellsOf(int written) {
        return digit(written, 0) + digit(written, 1) + digit(written, 2);
    }

    private static boolean isShape(int number) {
        if (number < 0 || number > LAST_SHAPE) {
            return false;
        }
        int p0 = digit(number, 0);
        int p1 = digit(number, 1);
        int p2 = digit(number, 2);
        return p0 >= p1 && p1 >= p2 && p0 + p1 + p2 <= MOST_CELLS;
    }

    private static boolean isContent(int number) {
        return number >= 0 && number <= LAST_CONTENT
            && digit(number, 1) <= MOST_CELLS && digit(number, 2) <= MOST_CELLS;
    }

    private boolean canMultiply(int by) {
        return isShape(by) && cellsOf(kept) + cellsOf(by) <= MOST_CELLS;
    }

    private int fillingsWithWritten(int content) {
        int c1 = digit(content, 0);
        int c2 = digit(content, 1);
        int c3 = digit(content, 2);
        return fillingsOf(kept, c1, c2, c3);
    }

    // A filling is told by the rows (q0, q1) that its 1s and 2s cover together and
    // by the c1 cells of the top row that its 1s cover. Columns rise exactly when
    // p0 >= q0 >= p1 >= q1 >= p2 and q0 >= c1 >= q1. These bounds leave nothing to
    // count for a content below 0, which timesInProduct may ask for.
    private static int fillingsOf(int shape, int c1, int c2, int c3) {
        if (c1 + c2 + c3 != cellsOf(shape)) {
            return 0;
        }
        int p0 = digit(shape, 0);
        int p1 = digit(shape, 1);
        int p2 = digit(shape, 2);
        int count = 0;
        for (int q0 = p1; q0 <= p0; q0++) {
            int q1 = c1 + c2 - q0;
            if (q1 >= p2 && q1 <= p1 && c1 >= q1 && c1 <= q0) {
                count++;
            }
        }
        return count;
    }

    // With A(p) the alternating sum of the monomials whose exponents are the
    // orderings of (p0 + 2, p1 + 1, p2), the polynomial of p is A(p) / A(empty).
    // So the polynomial of by, times A(kept), is the sum of m(s) * A(s), and m(s)
    // is what stands there before x1^(s0 + 2) * x2^(s1 + 1) * x3^s2.
    private int timesInProduct(int by, int s) {
        int k0 = digit(kept, 0) + 2;
        int k1 = digit(kept, 1) + 1;
        int k2 = digit(kept, 2);
        int s0 = digit(s, 0) + 2;
        int s1 = digit(s, 1) + 1;
        int s2 = digit(s, 2);
        int even = fillingsOf(by, s0 - k0, s1 - k1, s2 - k2)
            + fillingsOf(by, s0 - k1, s1 - k2, s2 - k0)
            + fillingsOf(by, s0 - k2, s1 - k0, s2 - k1);
        int odd = fillingsOf(by, s0 - k1, s1 - k0, s2 - k2)
            + fillingsOf(by, s0 - k0, s1 - k2, s2 - k1)
            + fillingsOf(by, s0 - k2, s1 - k1, s2 - k0);
        return even - odd;
    }

    private int columnLength(int place) {
        int length = 0;
        for (int row = 0; row < MOST_ROWS; row++) {
            if (digit(kept, row) > place) {
                length++;
            }
        }
        return length;
    }

    private static int factorial(int n) {
        int product = 1;
        for (int factor = 2; factor <= n; factor++) {
            product *= factor;
        }
        return product;
    }

    private static int overFactorial(int number, int n) {
        int quotient = number;
        for (int factor = 2; factor <= n; factor++) {
            quotient /= factor;
        }
        return quotient;
    }
}
