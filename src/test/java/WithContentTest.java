import java.util.TreeMap;

/** Promise 4: fillings with a content, for every content and for what is none. */
public final class WithContentTest {
    public static void main(String[] args) {
        for (int shape : Plain.shapes()) {
            TreeMap<Integer, Integer> counts = Plain.polynomial(shape);
            TableauDesk desk = Plain.keeping(shape);
            for (int content : Plain.contents()) {
                Check.due("withContent(" + content + ") of " + shape,
                    desk.withContent(content), counts.getOrDefault(content, 0));
            }
        }
        for (int number : Plain.allBut(Plain.contents())) {
            Check.due("withContent(" + number + ") of 0", new TableauDesk().withContent(number), -1);
            Check.due("withContent(" + number + ") of 321", Plain.keeping(321).withContent(number), -1);
        }
        Check.due("withContent(222) of 321", Plain.keeping(321).withContent(222), 2);
        Check.due("withContent(6) of 600", Plain.keeping(600).withContent(6), 1);
        Check.end();
    }
}
