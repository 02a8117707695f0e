/** Terms: answers hang on the arguments and on the kept shape alone. */
public final class SameAnswersTest {
    // Each call of the face, with arguments that are answered and some that are refused.
    private static final int CALLS = 22;

    public static void main(String[] args) {
        sameArgumentsSameAnswer();
        onlyTheKeptShapeChanges();
        keptIsEmptyAtTheStart();
        Check.end();
    }

    private static void sameArgumentsSameAnswer() {
        Check.sentence("All calls answer the same whenever they are made with the same arguments");
        for (int kept : Plain.shapes()) {
            for (int before = 0; before < CALLS; before++) {
                TableauDesk desk = Plain.keeping(kept);
                call(desk, before);
                for (int number = 0; number < CALLS; number++) {
                    Check.due("call " + number + " after call " + before + " of " + kept,
                        call(desk, number), call(Plain.keeping(kept), number));
                }
            }
        }
    }

    private static void onlyTheKeptShapeChanges() {
        Check.sentence("only the KEPT shape changes");
        for (int first : Plain.shapes()) {
            for (int then : Plain.shapes()) {
                TableauDesk desk = Plain.keeping(first);
                for (int number = 0; number < CALLS; number++) {
                    call(desk, number);
                }
                Check.due("greatest(0) of " + first, desk.greatest(0), first);
                Check.due("keep(" + then + ")", desk.keep(then), Plain.cells(then));
                for (int number = 0; number < CALLS; number++) {
                    Check.due("call " + number + " of " + then + " after " + first,
                        call(desk, number), call(Plain.keeping(then), number));
                }
            }
        }
    }

    private static void keptIsEmptyAtTheStart() {
        Check.sentence("(it is 0, the empty shape, at the start)");
        for (int number = 0; number < CALLS; number++) {
            Check.due("call " + number + " of a new object",
                call(new TableauDesk(), number), call(Plain.keeping(0), number));
        }
        Check.due("greatest(0) of a new object", new TableauDesk().greatest(0), 0);
        Check.due("times(0, 0) of a new object", new TableauDesk().times(0, 0), 1);
    }

    private static int call(TableauDesk desk, int number) {
        switch (number) {
            case 0: return desk.fillings();
            case 1: return desk.orders();
            case 2: return desk.turned();
            case 3: return desk.withContent(0);
            case 4: return desk.withContent(111);
            case 5: return desk.withContent(222);
            case 6: return desk.withContent(666);
            case 7: return desk.withContent(7);
            case 8: return desk.times(0, 0);
            case 9: return desk.times(100, 210);
            case 10: return desk.times(210, 321);
            case 11: return desk.times(600, 600);
            case 12: return desk.times(120, 210);
            case 13: return desk.times(100, 120);
            case 14: return desk.parts(0);
            case 15: return desk.parts(210);
            case 16: return desk.parts(331);
            case 17: return desk.greatest(0);
            case 18: return desk.greatest(110);
            case 19: return desk.greatest(-1);
            case 20: return desk.keep(700);
            default: return desk.keep(-100);
        }
    }
}
