/** What it is: an object answers as due up to its 512th call. */
public final class CallsTest {
    private static final int LAST = 512;

    public static void main(String[] args) {
        everyCallAsTheLast();
        shapesChangeToTheLast();
        laterCallsEnd();
        Check.end();
    }

    private static void everyCallAsTheLast() {
        Check.sentence("An object is used for at most 512 calls after it has been made");
        Check.due("keep(321)", usedUp(210, LAST - 1).keep(321), 6);
        Check.due("keep(700)", usedUp(210, LAST - 1).keep(700), -1);
        Check.due("fillings()", usedUp(210, LAST - 1).fillings(), 8);
        Check.due("withContent(111)", usedUp(210, LAST - 1).withContent(111), 2);
        Check.due("orders()", usedUp(210, LAST - 1).orders(), 2);
        Check.due("times(210, 321)", usedUp(210, LAST - 1).times(210, 321), 2);
        Check.due("parts(210)", usedUp(210, LAST - 1).parts(210), 6);
        Check.due("greatest(210)", usedUp(210, LAST - 1).greatest(210), 420);
        Check.due("turned()", usedUp(210, LAST - 1).turned(), 210);
        TableauDesk desk = usedUp(210, LAST - 2);
        Check.due("keep(600), call 511", desk.keep(600), 6);
        Check.due("fillings(), call 512", desk.fillings(), 28);
    }

    private static void shapesChangeToTheLast() {
        Check.sentence("An object is used for at most 512 calls after it has been made (each a keep)");
        TableauDesk desk = new TableauDesk();
        for (int call = 1; call <= LAST; call++) {
            int shape = Plain.shapes().get(call % Plain.shapes().size());
            Check.due("keep(" + shape + "), call " + call, desk.keep(shape), Plain.cells(shape));
        }
    }

    // Free in what they answer, but LANGUAGE.md lets none throw or fail to end: a
    // throw ends this test with an exit code other than 0.
    private static void laterCallsEnd() {
        Check.sentence("what later calls answer is free");
        TableauDesk desk = usedUp(321, LAST);
        for (int number : Plain.allBut(Plain.shapes())) {
            desk.keep(number);
            desk.fillings();
            desk.withContent(number);
            desk.orders();
            desk.times(number, number);
            desk.parts(number);
            desk.greatest(number);
            desk.turned();
        }
        Check.due("calls after the last, to their end", 1, 1);
    }

    /** An object that keeps the shape and has been called so many times, keep among them. */
    private static TableauDesk usedUp(int shape, int calls) {
        TableauDesk desk = Plain.keeping(shape);
        for (int call = 2; call <= calls; call++) {
            switch (call % 4) {
                case 0: desk.keep(shape); break;
                case 1: desk.keep(-1); break;
                case 2: desk.times(0, shape); break;
                default: desk.fillings();
            }
        }
        return desk;
    }
}
