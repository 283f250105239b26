import java.io.IOException;
import java.lang.reflect.Method;
import java.nio.file.Files;
import java.nio.file.Path;
import java.util.TreeSet;
import java.util.regex.Matcher;
import java.util.regex.Pattern;

/** The calls that README.md shows, made one behind another on one object, answer what it says behind them. */
public final class ReadmeTest {
    private static final String MAKES = "TermMachine x = new TermMachine();";
    private static final Pattern CALL = Pattern.compile("x\\.(\\w+)\\((.*?)\\);\\s*// (-?\\d+|[A-Z]+)(:.*)?");
    private static final Check check = new Check();

    private static TermMachine x;

    public static void main(String[] args) throws IOException, ReflectiveOperationException {
        TreeSet<String> shown = new TreeSet<>();
        boolean inJava = false;
        for (String line : Files.readAllLines(Path.of("README.md"))) {
            if (line.startsWith("```")) {
                inJava = line.equals("```java");
            } else if (line.equals(MAKES)) {
                x = new TermMachine();
            } else if (inJava) {
                shown.add(callShown(line));
            }
        }
        for (Method method : TermMachine.class.getMethods()) {
            boolean ofFace = method.getDeclaringClass() == TermMachine.class;
            check.due(method.getName() + " is shown", !ofFace || shown.contains(method.getName()) ? 1 : 0, 1);
        }
        check.end("ReadmeTest");
    }

    private static String callShown(String line) throws ReflectiveOperationException {
        Matcher call = CALL.matcher(line);
        check.due("a call with its answer: " + line, call.matches() && x != null ? 1 : 0, 1);
        if (!call.matches() || x == null) {
            return "";
        }
        Method method = methodOf(call.group(1));
        String[] texts = call.group(2).isEmpty() ? new String[0] : call.group(2).split(", ");
        Object[] values = new Object[texts.length];
        for (int i = 0; i < texts.length; i++) {
            values[i] = valueOf(texts[i], method.getParameterTypes()[i]);
        }
        check.due(line, ((Number) method.invoke(x, values)).longValue(), answerOf(call.group(3)));
        return method.getName();
    }

    private static Method methodOf(String name) {
        for (Method method : TermMachine.class.getMethods()) {
            if (method.getName().equals(name)) {
                return method;
            }
        }
        throw new IllegalStateException("no call " + name);
    }

    private static Object valueOf(String text, Class<?> type) {
        if (type == boolean.class) {
            return Boolean.valueOf(text);
        }
        long value = Long.decode(text.replaceAll("L$", ""));
        return type == int.class ? (Object) (int) value : (Object) value;
    }

    private static long answerOf(String text) throws ReflectiveOperationException {
        boolean named = Character.isUpperCase(text.charAt(0));
        return named ? TermMachine.class.getField(text).getInt(null) : Long.parseLong(text);
    }
}
