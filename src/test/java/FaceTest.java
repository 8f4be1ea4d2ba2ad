import java.io.IOException;
import java.lang.reflect.Constructor;
import java.lang.reflect.Field;
import java.lang.reflect.Method;
import java.lang.reflect.Modifier;
import java.nio.file.Files;
import java.nio.file.Path;
import java.util.Arrays;
import java.util.Set;
import java.util.TreeSet;
import java.util.regex.Pattern;

/** The public face of the document, and the rules of LANGUAGE.md that can be seen from outside. */
public final class FaceTest {
    private static final Checks checks = new Checks();

    private static final Set<String> FACE = new TreeSet<>(Arrays.asList(
            "public static final int BAD", "public static final int NONE",
            "public static final int STOPPED", "public static final int TIRED",
            "public Relooper()",
            "public boolean act(int,int,int)", "public boolean way(int,int,int,int)",
            "public int live()", "public int dominators(int)", "public boolean regular()",
            "public int loops()", "public int merges()", "public int run(int,int)",
            "public int outcome()", "public int register(int)", "public int outs()",
            "public int lastOut(int)", "public int carried()", "public int visits(int)"));

    public static void main(String[] args) throws IOException {
        dueFace();
        dueFields();
        dueMethods();
        dueSource();
        checks.end();
    }

    private static void dueFace() {
        Set<String> seen = new TreeSet<>();
        for (Field f : Relooper.class.getDeclaredFields()) {
            addIfNotPrivate(seen, f.getModifiers(), f.toString());
        }
        for (Method m : Relooper.class.getDeclaredMethods()) {
            addIfNotPrivate(seen, m.getModifiers(), m.toString());
        }
        for (Constructor<?> c : Relooper.class.getDeclaredConstructors()) {
            addIfNotPrivate(seen, c.getModifiers(), c.toString());
        }
        checks.due("the face is " + seen + ": that of the document", seen.equals(FACE), true);
        int wanted = Modifier.PUBLIC | Modifier.FINAL;
        checks.due("public and final", Relooper.class.getModifiers() & (wanted | Modifier.ABSTRACT), wanted);
        checks.due("nested classes", Relooper.class.getDeclaredClasses().length, 0);
        checks.due("superclass is Object", Relooper.class.getSuperclass() == Object.class, true);
        checks.due("interfaces", Relooper.class.getInterfaces().length, 0);
    }

    private static void addIfNotPrivate(Set<String> seen, int modifiers, String text) {
        if (!Modifier.isPrivate(modifiers)) {
            seen.add(text.replace("Relooper.", ""));
        }
    }

    private static void dueFields() {
        int own = 0;
        for (Field f : Relooper.class.getDeclaredFields()) {
            Class<?> type = f.getType();
            if (Modifier.isStatic(f.getModifiers())) {
                boolean constant = Modifier.isFinal(f.getModifiers()) && (type == int.class || type == long.class);
                checks.due(f + " is a constant of int or long", constant, true);
            } else {
                own++;
                Class<?> element = type.isArray() ? type.getComponentType() : type;
                checks.due(f + " is of numbers", element.isPrimitive() && element != double.class && element != float.class, true);
                checks.due(f + " is not assigned anew", !type.isArray() || Modifier.isFinal(f.getModifiers()), true);
            }
        }
        checks.due("at most forty fields", own <= 40, true);
    }

    private static void dueMethods() {
        Set<String> names = new TreeSet<>();
        for (Method m : Relooper.class.getDeclaredMethods()) {
            checks.due(m + " has a name of its own", names.add(m.getName()), true);
            checks.due(m + " answers no array", m.getReturnType().isPrimitive(), true);
            checks.due(m + " takes at most seven", m.getParameterCount() <= 7, true);
        }
    }

    private static void dueSource() throws IOException {
        String source = Files.readString(Path.of("src/main/java/Relooper.java"));
        String code = source.replaceAll("(?s)/\\*.*?\\*/", "").replaceAll("//[^\n]*", "");
        String[] words = {"import", "package", "null", "throw", "try", "catch", "synchronized", "assert",
            "instanceof", "float", "double", "String", "Math", "Integer", "System", "Arrays", "Object",
            "interface", "enum", "record", "protected", "->", "::"};
        for (String word : words) {
            String edge = Character.isLetter(word.charAt(0)) ? "\\b" : "";
            boolean found = Pattern.compile(edge + Pattern.quote(word) + edge).matcher(code).find();
            checks.due("the source has " + word, found, false);
        }
        for (String line : code.split("\n")) {
            if (line.contains("new ")) {
                boolean inField = line.matches("    private final int\\[\\] \\w+ = new int\\[[A-Z_]+\\];");
                checks.due("made in a field's initialiser: " + line, inField, true);
            }
        }
        checks.due("endless loops by their look", Pattern.compile("while\\s*\\(|for\\s*\\(\\s*;").matcher(code).find(), false);
    }
}
