import java.util.List;

/** Terms: what is refused, from every kept shape, by every call that takes a number. */
public final class RefusedTest {
    public static void main(String[] args) {
        notWrittenAsSaid();
        doesNotFit();
        Check.end();
    }

    private static void notWrittenAsSaid() {
        Check.sentence("A number that is not written as said is refused: the call answers -1");
        List<Integer> noShapes = Plain.allBut(Plain.shapes());
        List<Integer> noContents = Plain.allBut(Plain.contents());
        for (int kept : Plain.shapes()) {
            for (int number : noShapes) {
                Check.due("keep(" + number + ") of " + kept, Plain.keeping(kept).keep(number), -1);
                Rows.times(kept, number, 0, -1);
                Rows.times(kept, 0, number, -1);
                Rows.parts(kept, number, -1);
                Rows.greatest(kept, number, -1);
            }
            for (int number : noContents) {
                Rows.withContent(kept, number, -1);
            }
        }
    }

    private static void doesNotFit() {
        Check.sentence("A number that does not fit is refused: the call answers -1");
        for (int kept : Plain.shapes()) {
            TableauDesk desk = Plain.keeping(kept);
            for (int by : Plain.shapes()) {
                boolean refused = Plain.cells(kept) + Plain.cells(by) > 6;
                String call = "(" + by + ") is -1 of " + kept;
                Check.due("times" + call, desk.times(by, 0) == -1 ? 1 : 0, refused ? 1 : 0);
                Check.due("parts" + call, desk.parts(by) == -1 ? 1 : 0, refused ? 1 : 0);
                Check.due("greatest" + call, desk.greatest(by) == -1 ? 1 : 0, refused ? 1 : 0);
            }
        }
    }
}
