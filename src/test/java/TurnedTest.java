/** Promise 9: rows become columns. */
public final class TurnedTest {
    // Written out by hand: a kept shape, then the one that turned() is due to answer.
    private static final int[][] TURNED = {
        {0, 0}, {100, 100}, {110, 200}, {111, 300}, {200, 110}, {210, 210}, {211, 310},
        {220, 220}, {221, 320}, {222, 330}, {300, 111}, {310, 211}, {311, 311}, {320, 221},
        {321, 321}, {330, 222}
    };
    private static final int[] TOO_WIDE = {400, 410, 411, 420, 500, 510, 600};

    public static void main(String[] args) {
        Check.due("shapes told", TURNED.length + TOO_WIDE.length, Plain.shapes().size());
        atMostThreeRows();
        moreThanThreeRows();
        turnedTwice();
        Check.end();
    }

    private static void atMostThreeRows() {
        Check.sentence("The shape whose rows are the columns of the kept one, if it is a shape");
        for (int[] row : TURNED) {
            Rows.turned(row[0], row[1]);
        }
    }

    private static void moreThanThreeRows() {
        Check.sentence("(that is, has at most 3 rows); -1 if not.");
        Rows.turned(300, 111);
        for (int shape : TOO_WIDE) {
            Rows.turned(shape, -1);
        }
    }

    private static void turnedTwice() {
        Check.sentence("The shape whose rows are the columns of the kept one: turned twice, the kept one");
        for (int[] row : TURNED) {
            TableauDesk desk = Plain.keeping(row[0]);
            desk.keep(desk.turned());
            Check.due("turned() of turned() of " + row[0], desk.turned(), row[0]);
        }
    }
}
