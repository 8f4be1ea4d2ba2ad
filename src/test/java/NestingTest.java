import java.lang.reflect.Field;
import java.util.ArrayDeque;
import java.util.Deque;

/**
 * Looks at the code that a run wrote: that it is nested, that it has no way out of a form but
 * to leave a scope or begin a loop anew that is around it, and that each block stands once.
 * No answer of the class shows this, so the test looks inside.
 */
public final class NestingTest {
    private static final Checks checks = new Checks();

    public static void main(String[] args) throws ReflectiveOperationException {
        Programs programs = new Programs(77);
        int looked = 0;
        for (int i = 0; i < 20000; i++) {
            Relooper x = new Relooper();
            programs.setAll(x, new Model(), 1 + programs.below(8));
            if (x.run(1, 1) != Relooper.BAD) {
                look("program " + i, x);
                looked++;
            }
        }
        checks.due("regular programs were met", looked > 5000, true);
        checks.end();
    }

    private static Object inside(Relooper x, String name) throws ReflectiveOperationException {
        Field field = Relooper.class.getDeclaredField(name);
        field.setAccessible(true);
        return field.get(x);
    }

    private static int form(String name) throws ReflectiveOperationException {
        return (int) inside(null, name);
    }

    private static void look(String name, Relooper x) throws ReflectiveOperationException {
        int[] forms = (int[]) inside(x, "codeForm");
        int[] blocks = (int[]) inside(x, "codeBlock");
        int length = (int) inside(x, "codeLength");
        Deque<String> open = new ArrayDeque<>();
        int done = 0;
        for (int i = 0; i < length; i++) {
            int form = forms[i];
            int b = blocks[i];
            if (form == form("LOOP")) {
                open.push("LOOP" + b);
            } else if (form == form("SCOPE")) {
                open.push("SCOPE" + b);
            } else if (form == form("IF")) {
                open.push("IF" + b);
            } else if (form == form("LOOP_END")) {
                close(name, open, "LOOP" + b);
            } else if (form == form("SCOPE_END")) {
                close(name, open, "SCOPE" + b);
            } else if (form == form("ELSE")) {
                close(name, open, "IF" + b);
                open.push("ELSE" + b);
            } else if (form == form("IF_END")) {
                close(name, open, "ELSE" + b);
            } else if (form == form("LEAVE")) {
                checks.due(name + " leaves a scope around it", open.contains("SCOPE" + b), true);
            } else if (form == form("AGAIN")) {
                checks.due(name + " begins a loop around it anew", open.contains("LOOP" + b), true);
            } else if (form == form("DO")) {
                checks.due(name + " has block " + b + " once", done >> b & 1, 0);
                done |= 1 << b;
            } else {
                checks.due(name + " has a known form", form, form("FINISH"));
            }
        }
        checks.due(name + " closes all", open.size(), 0);
        checks.due(name + " has every live block", done, x.live());
    }

    private static void close(String name, Deque<String> open, String what) {
        boolean innermost = !open.isEmpty() && open.pop().equals(what);
        checks.due(name + " closes " + what + " as the innermost", innermost, true);
    }
}
