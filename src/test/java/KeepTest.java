/** Promise 2: keep answers the cells, and a refused number changes nothing. */
public final class KeepTest {
    public static void main(String[] args) {
        Check.due("number of shapes", Plain.shapes().size(), 23);
        for (int shape : Plain.shapes()) {
            Check.due("keep(" + shape + ")", new TableauDesk().keep(shape), Plain.cells(shape));
        }
        for (int number : Plain.allBut(Plain.shapes())) {
            refused(number);
        }
        keptIsTheLast();
        otherCallsChangeNothing();
        Check.end();
    }

    private static void refused(int number) {
        TableauDesk desk = Plain.keeping(210);
        Check.due("keep(" + number + ")", desk.keep(number), -1);
        Check.due("times(0, 210) after keep(" + number + ")", desk.times(0, 210), 1);
    }

    private static void keptIsTheLast() {
        TableauDesk desk = new TableauDesk();
        for (int round = 0; round < 2; round++) {
            for (int shape : Plain.shapes()) {
                desk.keep(shape);
                Check.due("greatest(0) keeping " + shape, desk.greatest(0), shape);
            }
        }
    }

    private static void otherCallsChangeNothing() {
        for (int shape : Plain.shapes()) {
            TableauDesk desk = Plain.keeping(shape);
            desk.fillings();
            desk.withContent(111);
            desk.withContent(-1);
            desk.orders();
            desk.times(100, 200);
            desk.times(100, 7);
            desk.parts(110);
            desk.parts(12);
            desk.greatest(300);
            desk.greatest(1);
            desk.turned();
            Check.due("greatest(0) keeping " + shape, desk.greatest(0), shape);
        }
    }
}
