import java.io.IOException;
import java.lang.reflect.Method;
import java.nio.file.Files;
import java.nio.file.Path;
import java.util.Map;
import java.util.TreeMap;
import java.util.TreeSet;
import java.util.regex.Matcher;
import java.util.regex.Pattern;

/** Makes the calls of the example in README.md: each answers what stands beside it, and no method is left out. */
public final class ReadmeTest {
    private static final Checks checks = new Checks();
    private static final Pattern CALL = Pattern.compile("x\\.(\\w+)\\(([-\\d, ]*)\\);\\s*// (-?\\w+).*");
    private static final Pattern NUMBER = Pattern.compile("-?\\d+");

    private final Relooper x = new Relooper();
    private final Map<String, Method> methods = new TreeMap<>();
    private final TreeSet<String> leftOut = new TreeSet<>();

    public static void main(String[] args) throws IOException, ReflectiveOperationException {
        new ReadmeTest().look();
        checks.end();
    }

    private void look() throws IOException, ReflectiveOperationException {
        for (Method method : Relooper.class.getMethods()) {
            if (method.getDeclaringClass() == Relooper.class) {
                methods.put(method.getName(), method);
            }
        }
        leftOut.addAll(methods.keySet());
        for (String line : Files.readAllLines(Path.of("README.md"))) {
            if (line.startsWith("x.")) {
                makeCall(line);
            }
        }
        checks.due("what the example leaves out", leftOut.toString(), "[]");
    }

    private void makeCall(String line) throws ReflectiveOperationException {
        Matcher call = CALL.matcher(line);
        boolean known = call.matches() && methods.containsKey(call.group(1));
        checks.due("that this is a call with its answer: " + line, known, true);
        if (known) {
            Object[] numbers = NUMBER.matcher(call.group(2)).results().map(n -> Integer.valueOf(n.group())).toArray();
            Object answer = methods.get(call.group(1)).invoke(x, numbers);
            checks.due(line, answer.toString(), call.group(3));
            leftOut.remove(call.group(1));
        }
    }
}
