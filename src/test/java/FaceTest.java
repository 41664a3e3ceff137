import java.lang.reflect.Constructor;
import java.lang.reflect.Field;
import java.lang.reflect.Method;
import java.lang.reflect.Modifier;
import java.util.Arrays;
import java.util.Set;
import java.util.TreeSet;

/** The public face: just the members of the document, and all others private. */
public final class FaceTest {
    private static final Set<String> FACE = Set.of(
        "public static final int BAD_ARG", "public static final int FULL", "public static final int NONE",
        "public EndingIndex()",
        "public int draft(int)", "public void scrap()", "public int add(int)", "public int remove(int)",
        "public int endings()", "public int length(int)", "public int letter(int,int)", "public int ending(int)",
        "public int rank(int)", "public int count(int)", "public int place(int,int)", "public int slots(int)",
        "public int after(int)", "public int before(int)", "public int common(int)", "public int distinct()",
        "public int repeated()");

    public static void main(String[] args) {
        Checks checks = new Checks();
        Set<String> seen = visibleMembers();
        for (String member : FACE) {
            checks.due("has " + member, seen.contains(member) ? 1 : 0, 1);
        }
        for (String member : seen) {
            checks.due("may have " + member, FACE.contains(member) ? 1 : 0, 1);
        }
        checks.due("class is public and final", EndingIndex.class.getModifiers(), Modifier.PUBLIC | Modifier.FINAL);
        checks.due("nested classes", EndingIndex.class.getDeclaredClasses().length, 0);
        checks.due("BAD_ARG", EndingIndex.BAD_ARG, -1);
        checks.due("FULL", EndingIndex.FULL, -2);
        checks.due("NONE", EndingIndex.NONE, -4);
        checks.finish("FaceTest");
    }

    private static Set<String> visibleMembers() {
        Set<String> seen = new TreeSet<>();
        for (Field f : EndingIndex.class.getDeclaredFields()) {
            if (!Modifier.isPrivate(f.getModifiers())) {
                seen.add(Modifier.toString(f.getModifiers()) + " " + f.getType().getName() + " " + f.getName());
            }
        }
        for (Constructor<?> c : EndingIndex.class.getDeclaredConstructors()) {
            if (!Modifier.isPrivate(c.getModifiers())) {
                seen.add((Modifier.toString(c.getModifiers()) + " EndingIndex" + named(c.getParameterTypes())).trim());
            }
        }
        for (Method m : EndingIndex.class.getDeclaredMethods()) {
            if (!Modifier.isPrivate(m.getModifiers())) {
                seen.add((Modifier.toString(m.getModifiers()) + " " + m.getReturnType().getName() + " " + m.getName()
                    + named(m.getParameterTypes())).trim());
            }
        }
        return seen;
    }

    private static String named(Class<?>[] types) {
        String[] names = Arrays.stream(types).map(Class::getName).toArray(String[]::new);
        return "(" + String.join(",", names) + ")";
    }
}
