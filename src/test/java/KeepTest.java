import java.util.List;

/** Promise 2: keep answers the cells, and a refused number changes nothing. */
public final class KeepTest {
    public static void main(String[] args) {
        Check.due("number of shapes", Plain.shapes().size(), 23);
        keptIsTheLast();
        answersTheCells();
        refusedChangesNothing();
        otherCallsChangeNothing();
        Check.end();
    }

    private static void keptIsTheLast() {
        Check.sentence("Keeps the shape.");
        for (int first : Plain.shapes()) {
            for (int then : Plain.shapes()) {
                TableauDesk desk = Plain.keeping(first);
                desk.keep(then);
                keeps(desk, then, "keep(" + then + ") of " + first);
            }
        }
    }

    private static void answersTheCells() {
        Check.sentence("Answers the number of its cells");
        Check.due("keep(0)", Plain.keeping(600).keep(0), 0);
        Check.due("keep(100)", new TableauDesk().keep(100), 1);
        Check.due("keep(600)", new TableauDesk().keep(600), 6);
        Check.due("keep(222)", new TableauDesk().keep(222), 6);
        for (int shape : Plain.shapes()) {
            TableauDesk desk = new TableauDesk();
            Check.due("keep(" + shape + ")", desk.keep(shape), Plain.cells(shape));
            Check.due("keep(" + shape + ") again", desk.keep(shape), Plain.cells(shape));
        }
    }

    private static void refusedChangesNothing() {
        Check.sentence("-1, and changes nothing, if refused.");
        List<Integer> refused = Plain.allBut(Plain.shapes());
        for (int kept : Plain.shapes()) {
            for (int number : refused) {
                TableauDesk desk = Plain.keeping(kept);
                String call = "keep(" + number + ") of " + kept;
                Check.due(call, desk.keep(number), -1);
                keeps(desk, kept, call);
            }
        }
    }

    private static void otherCallsChangeNothing() {
        Check.sentence("only the KEPT shape changes, and keep alone changes it");
        for (int shape : Plain.shapes()) {
            TableauDesk desk = Plain.keeping(shape);
            desk.fillings();
            keeps(desk, shape, "fillings()");
            desk.withContent(111);
            keeps(desk, shape, "withContent(111)");
            desk.withContent(-1);
            keeps(desk, shape, "withContent(-1)");
            desk.orders();
            keeps(desk, shape, "orders()");
            desk.times(100, 200);
            keeps(desk, shape, "times(100, 200)");
            desk.times(100, 7);
            keeps(desk, shape, "times(100, 7)");
            desk.parts(110);
            keeps(desk, shape, "parts(110)");
            desk.parts(12);
            keeps(desk, shape, "parts(12)");
            desk.greatest(300);
            keeps(desk, shape, "greatest(300)");
            desk.greatest(1);
            keeps(desk, shape, "greatest(1)");
            desk.turned();
            keeps(desk, shape, "turned()");
        }
    }

    /** The product with the empty shape is the kept shape alone. */
    private static void keeps(TableauDesk desk, int shape, String after) {
        Check.due("times(0, " + shape + ") after " + after, desk.times(0, shape), 1);
        Check.due("greatest(0) after " + after, desk.greatest(0), shape);
    }
}
