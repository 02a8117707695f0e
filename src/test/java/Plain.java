import java.util.ArrayList;
import java.util.List;
import java.util.TreeMap;

/**
 * The document's terms taken word by word: fillings are tried cell by cell and
 * products multiplied out, so that no formula of the program is used here.
 */
final class Plain {
    // Added to a number that is allowed, each of these makes one that looks like it
    // to a program that drops high digits, high bits or the sign.
    private static final int[] FAR = {
        1000, 10000, 1000000, 1 << 16, 1 << 24, 1 << 30, Integer.MIN_VALUE, -1000, -10000, -(1 << 16)
    };

    private Plain() {
    }

    static List<Integer> shapes() {
        List<Integer> all = new ArrayList<>();
        for (int p0 = 0; p0 <= 6; p0++) {
            for (int p1 = 0; p1 <= p0; p1++) {
                for (int p2 = 0; p2 <= p1; p2++) {
                    if (p0 + p1 + p2 <= 6) {
                        all.add(100 * p0 + 10 * p1 + p2);
                    }
                }
            }
        }
        return all;
    }

    static List<Integer> contents() {
        List<Integer> all = new ArrayList<>();
        for (int c1 = 0; c1 <= 6; c1++) {
            for (int c2 = 0; c2 <= 6; c2++) {
                for (int c3 = 0; c3 <= 6; c3++) {
                    all.add(100 * c1 + 10 * c2 + c3);
                }
            }
        }
        return all;
    }

    /** Every pair of shapes that have together at most 6 cells. */
    static List<int[]> pairs() {
        List<int[]> all = new ArrayList<>();
        for (int one : shapes()) {
            for (int other : shapes()) {
                if (cells(one) + cells(other) <= 6) {
                    all.add(new int[] {one, other});
                }
            }
        }
        return all;
    }

    /** Every number from -1100 to 1100 that is not in the list, and some far off. */
    static List<Integer> allBut(List<Integer> allowed) {
        List<Integer> others = new ArrayList<>();
        for (int number = -1100; number <= 1100; number++) {
            if (!allowed.contains(number)) {
                others.add(number);
            }
        }
        for (int number : allowed) {
            for (int far : FAR) {
                others.add(number + far);
            }
        }
        others.add(Integer.MAX_VALUE - 1);
        others.add(Integer.MAX_VALUE);
        return others;
    }

    /** What no product with the kept shape takes: no shapes, and shapes with too many cells. */
    static List<Integer> refusedBy(int kept) {
        List<Integer> refused = allBut(shapes());
        for (int by : shapes()) {
            if (cells(kept) + cells(by) > 6) {
                refused.add(by);
            }
        }
        return refused;
    }

    static int[] rows(int shape) {
        return new int[] {shape / 100, shape / 10 % 10, shape % 10};
    }

    static int cells(int shape) {
        int[] p = rows(shape);
        return p[0] + p[1] + p[2];
    }

    static TableauDesk keeping(int shape) {
        TableauDesk desk = new TableauDesk();
        desk.keep(shape);
        return desk;
    }

    /** The polynomial of a shape: written content to number of fillings. */
    static TreeMap<Integer, Integer> polynomial(int shape) {
        TreeMap<Integer, Integer> counts = new TreeMap<>();
        fill(rows(shape), new int[3][6], 0, 0, 0, counts);
        return counts;
    }

    private static void fill(int[] p, int[][] at, int i, int j, int content,
                             TreeMap<Integer, Integer> counts) {
        if (i == 3) {
            counts.merge(content, 1, Integer::sum);
            return;
        }
        if (j == p[i]) {
            fill(p, at, i + 1, 0, content, counts);
            return;
        }
        int[] weight = {0, 100, 10, 1};
        for (int v = 1; v <= 3; v++) {
            boolean falls = j > 0 && at[i][j - 1] > v;
            boolean staysBelow = i > 0 && at[i - 1][j] >= v;
            if (!falls && !staysBelow) {
                at[i][j] = v;
                fill(p, at, i, j + 1, content + weight[v], counts);
            }
        }
    }

    /** The product of two polynomials, in the same form as each of them. */
    static TreeMap<Integer, Integer> multiplied(int one, int other) {
        TreeMap<Integer, Integer> sum = new TreeMap<>();
        TreeMap<Integer, Integer> left = polynomial(one);
        TreeMap<Integer, Integer> right = polynomial(other);
        for (int a : left.keySet()) {
            for (int b : right.keySet()) {
                sum.merge(a + b, left.get(a) * right.get(b), Integer::sum);
            }
        }
        return sum;
    }

    /** The shapes of the product of two polynomials, each with its m(s). */
    static TreeMap<Integer, Integer> product(int one, int other) {
        TreeMap<Integer, Integer> rest = multiplied(one, other);
        TreeMap<Integer, Integer> found = new TreeMap<>();
        while (!rest.isEmpty()) {
            int top = rest.lastKey();
            int m = rest.get(top);
            found.put(top, m);
            takeAway(rest, polynomial(top), m);
        }
        return found;
    }

    private static void takeAway(TreeMap<Integer, Integer> rest,
                                 TreeMap<Integer, Integer> polynomial, int m) {
        for (int content : polynomial.keySet()) {
            int left = rest.getOrDefault(content, 0) - m * polynomial.get(content);
            if (left < 0) {
                throw new IllegalStateException("the test's own product does not fall apart");
            }
            if (left == 0) {
                rest.remove(content);
            } else {
                rest.put(content, left);
            }
        }
    }

    /** Puts the numbers 1 to n one after the other on cells that may come next. */
    static int orders(int shape) {
        return orders(rows(shape), new int[3]);
    }

    private static int orders(int[] p, int[] filled) {
        boolean full = true;
        int ways = 0;
        for (int i = 0; i < 3; i++) {
            if (filled[i] < p[i]) {
                full = false;
                if (i == 0 || filled[i - 1] > filled[i]) {
                    filled[i]++;
                    ways += orders(p, filled);
                    filled[i]--;
                }
            }
        }
        return full ? 1 : ways;
    }
}
