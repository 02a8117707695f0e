import java.lang.reflect.Constructor;
import java.lang.reflect.Field;
import java.lang.reflect.Method;
import java.lang.reflect.Modifier;
import java.util.Set;
import java.util.TreeSet;

/** The public face: the document's members, each with its types, and no others. */
public final class FaceTest {
    private static final Set<String> FACE = Set.of(
        "public TableauDesk()",
        "public int TableauDesk.keep(int)",
        "public int TableauDesk.fillings()",
        "public int TableauDesk.withContent(int)",
        "public int TableauDesk.orders()",
        "public int TableauDesk.times(int,int)",
        "public int TableauDesk.parts(int)",
        "public int TableauDesk.greatest(int)",
        "public int TableauDesk.turned()");

    public static void main(String[] args) {
        Set<String> seen = new TreeSet<>();
        for (Constructor<?> made : TableauDesk.class.getDeclaredConstructors()) {
            seen.add(made.toString());
        }
        for (Method method : TableauDesk.class.getDeclaredMethods()) {
            if (!Modifier.isPrivate(method.getModifiers())) {
                seen.add(method.toString());
            }
        }
        for (Field field : TableauDesk.class.getDeclaredFields()) {
            if (!Modifier.isPrivate(field.getModifiers())) {
                seen.add(field.toString());
            }
        }
        Check.due("members " + seen, seen.equals(FACE) ? 1 : 0, 1);
        Check.due("modifiers", TableauDesk.class.getModifiers(), Modifier.PUBLIC | Modifier.FINAL);
        Check.due("nested classes", TableauDesk.class.getDeclaredClasses().length, 0);
        Check.end();
    }
}
