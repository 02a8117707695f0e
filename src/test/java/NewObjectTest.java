/** Promise 1: a new object keeps the empty shape. */
public final class NewObjectTest {
    public static void main(String[] args) {
        keepsTheEmptyShape();
        objectsKeepApart();
        Check.end();
    }

    private static void keepsTheEmptyShape() {
        Check.sentence("TableauDesk(): The kept shape is 0.");
        Check.due("fillings()", new TableauDesk().fillings(), 1);
        Check.due("withContent(0)", new TableauDesk().withContent(0), 1);
        Check.due("withContent(100)", new TableauDesk().withContent(100), 0);
        Check.due("withContent(7)", new TableauDesk().withContent(7), -1);
        Check.due("orders()", new TableauDesk().orders(), 1);
        Check.due("turned()", new TableauDesk().turned(), 0);
        Check.due("times(0, 0)", new TableauDesk().times(0, 0), 1);
        Check.due("times(0, 100)", new TableauDesk().times(0, 100), 0);
        Check.due("times(700, 600)", new TableauDesk().times(700, 600), -1);
        for (int by : Plain.shapes()) {
            TableauDesk desk = new TableauDesk();
            Check.due("times(" + by + ", " + by + ")", desk.times(by, by), 1);
            Check.due("parts(" + by + ")", desk.parts(by), 1);
            Check.due("greatest(" + by + ")", desk.greatest(by), by);
        }
    }

    private static void objectsKeepApart() {
        Check.sentence("TableauDesk(): The kept shape is 0, whatever other objects keep");
        TableauDesk first = new TableauDesk();
        first.keep(321);
        TableauDesk second = new TableauDesk();
        Check.due("second.fillings()", second.fillings(), 1);
        second.keep(600);
        Check.due("first.orders()", first.orders(), 16);
    }
}
