/** Promise 9: rows become columns. */
public final class TurnedTest {
    // Written out by hand: a kept shape, then what turned() is due to answer.
    private static final int[] DUE = {
        0, 0, 100, 100, 110, 200, 111, 300, 200, 110, 210, 210, 211, 310, 220, 220,
        221, 320, 222, 330, 300, 111, 310, 211, 311, 311, 320, 221, 321, 321, 330, 222,
        400, -1, 410, -1, 411, -1, 420, -1, 500, -1, 510, -1, 600, -1
    };

    public static void main(String[] args) {
        Check.due("shapes told", DUE.length / 2, Plain.shapes().size());
        for (int i = 0; i < DUE.length; i += 2) {
            TableauDesk desk = Plain.keeping(DUE[i]);
            Check.due("turned() of " + DUE[i], desk.turned(), DUE[i + 1]);
            Check.due("turned() of " + DUE[i] + " again", desk.turned(), DUE[i + 1]);
        }
        Check.end();
    }
}
