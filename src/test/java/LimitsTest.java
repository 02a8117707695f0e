/** Promise 10: a content of another number of cells is answered with 0, not refused. */
public final class LimitsTest {
    public static void main(String[] args) {
        for (int shape : Plain.shapes()) {
            TableauDesk desk = Plain.keeping(shape);
            for (int content : Plain.contents()) {
                if (Plain.cells(content) != Plain.cells(shape)) {
                    Check.due("withContent(" + content + ") of " + shape, desk.withContent(content), 0);
                }
            }
        }
        Check.due("withContent(666) of 321", Plain.keeping(321).withContent(666), 0);
        Check.due("withContent(667) of 321", Plain.keeping(321).withContent(667), -1);
        Check.due("withContent(0) of 321", Plain.keeping(321).withContent(0), 0);
        Check.due("withContent(601) of 0", Plain.keeping(0).withContent(601), 0);
        answersStayToTheLastCall();
        Check.end();
    }

    private static void answersStayToTheLastCall() {
        TableauDesk desk = Plain.keeping(210);
        for (int call = 2; call <= 512; call++) {
            Check.due("times(210, 321), call " + call, desk.times(210, 321), 2);
        }
    }
}
