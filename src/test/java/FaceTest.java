import java.lang.reflect.Constructor;
import java.lang.reflect.Field;
import java.lang.reflect.Method;
import java.lang.reflect.Modifier;
import java.util.Arrays;
import java.util.Set;
import java.util.TreeSet;

/** The public face: what the document names is there, and nothing else can be seen. */
public final class FaceTest {
    public static void main(String[] args) {
        Check check = new Check("face");
        check.sentence("The class is `final`.", FaceTest::publicAndFinal);
        check.sentence("There are no public constants.", FaceTest::noVisibleField);
        check.sentence("## The public face", FaceTest::theFace);
        check.end();
    }

    private static void publicAndFinal(Check check) {
        int modifiers = MismatchCtl.class.getModifiers();
        check.due("the class is public", modifiers & Modifier.PUBLIC, Modifier.PUBLIC);
        check.due("the class is final", modifiers & Modifier.FINAL, Modifier.FINAL);
    }

    private static void noVisibleField(Check check) {
        check.due("number of public fields", MismatchCtl.class.getFields().length, 0);
    }

    private static void theFace(Check check) {
        Set<String> due = new TreeSet<>(Arrays.asList(
            "public MismatchCtl()",
            "public int MismatchCtl.dequant(int,int,int,int)",
            "public int MismatchCtl.close()",
            "public int MismatchCtl.coefAt(int)",
            "public int MismatchCtl.sum()"));
        Set<String> seen = visibleMembers();
        for (String member : seen) {
            check.due("asked for: " + member, due.contains(member) ? 1 : 0, 1);
        }
        for (String member : due) {
            check.due("is there: " + member, seen.contains(member) ? 1 : 0, 1);
        }
        // A class above it or an interface could bring public members that it doesn't declare.
        check.due("extends Object alone", MismatchCtl.class.getSuperclass() == Object.class ? 1 : 0, 1);
        check.due("number of interfaces", MismatchCtl.class.getInterfaces().length, 0);
    }

    private static Set<String> visibleMembers() {
        Set<String> seen = new TreeSet<>();
        for (Constructor<?> c : MismatchCtl.class.getDeclaredConstructors()) {
            addIfVisible(seen, c.getModifiers(), c.toString());
        }
        for (Method m : MismatchCtl.class.getDeclaredMethods()) {
            addIfVisible(seen, m.getModifiers(), m.toString());
        }
        for (Field f : MismatchCtl.class.getDeclaredFields()) {
            addIfVisible(seen, f.getModifiers(), f.toString());
        }
        return seen;
    }

    private static void addIfVisible(Set<String> seen, int modifiers, String member) {
        if (!Modifier.isPrivate(modifiers)) {
            seen.add(member);
        }
    }
}
