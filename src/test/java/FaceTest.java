import java.lang.reflect.Constructor;
import java.lang.reflect.Field;
import java.lang.reflect.Method;
import java.lang.reflect.Modifier;
import java.util.Arrays;
import java.util.Set;
import java.util.TreeSet;

/** The public face of the class is that of the document, and no more. */
public final class FaceTest {
    private static final Checks checks = new Checks();

    private static final Set<String> FACE = new TreeSet<>(Arrays.asList(
            "public static final int BAD", "public static final int NONE",
            "public static final int STOPPED", "public static final int TIRED",
            "public Relooper()",
            "public boolean act(int,int,int)", "public boolean way(int,int,int,int)",
            "public int live()", "public int dominators(int)", "public boolean regular()",
            "public int loops()", "public int merges()", "public int run(int,int)",
            "public int outcome()", "public int register(int)", "public int outs()",
            "public int lastOut(int)", "public int carried()", "public int visits(int)"));

    public static void main(String[] args) {
        dueFace();
        checks.end();
    }

    private static void dueFace() {
        Set<String> seen = new TreeSet<>();
        for (Field f : Relooper.class.getDeclaredFields()) {
            addIfNotPrivate(seen, f.getModifiers(), f.toString());
        }
        for (Method m : Relooper.class.getDeclaredMethods()) {
            addIfNotPrivate(seen, m.getModifiers(), m.toString());
        }
        for (Constructor<?> c : Relooper.class.getDeclaredConstructors()) {
            addIfNotPrivate(seen, c.getModifiers(), c.toString());
        }
        checks.due("the face is " + seen + ": that of the document", seen.equals(FACE), true);
        int wanted = Modifier.PUBLIC | Modifier.FINAL;
        checks.due("public and final", Relooper.class.getModifiers() & (wanted | Modifier.ABSTRACT), wanted);
        checks.due("nested classes", Relooper.class.getDeclaredClasses().length, 0);
        checks.due("superclass is Object", Relooper.class.getSuperclass() == Object.class, true);
        checks.due("interfaces", Relooper.class.getInterfaces().length, 0);
    }

    private static void addIfNotPrivate(Set<String> seen, int modifiers, String text) {
        if (!Modifier.isPrivate(modifiers)) {
            seen.add(text.replace("Relooper.", ""));
        }
    }
}
