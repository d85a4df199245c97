import java.io.IOException;
import java.lang.reflect.Method;
import java.lang.reflect.Modifier;
import java.nio.file.Files;
import java.nio.file.Path;
import java.util.Set;
import java.util.TreeSet;
import java.util.regex.Matcher;
import java.util.regex.Pattern;

/** Runs the examples of README.md: each call's remark begins with the answer that is due. */
public final class ReadmeTest {
    private static final Pattern CALL = Pattern.compile("x\\.(\\w+)\\((.*)\\); *// (-?\\d+)\\b.*");
    private static final Pattern WORD = Pattern.compile("word\\(\"(.*)\"\\)");
    private static final Check check = new Check("ReadmeTest");

    public static void main(String[] args) throws IOException, ReflectiveOperationException {
        Path readme = Path.of(args.length > 0 ? args[0] : ".", "README.md");
        Set<String> shown = new TreeSet<>();
        WagonWays x = null;
        for (String line : Files.readAllLines(readme)) {
            if (line.startsWith("WagonWays x = new WagonWays();")) {
                x = new WagonWays();
            } else if (line.startsWith("x.")) {
                shown.add(run(x, line));
            }
        }
        for (Method m : WagonWays.class.getDeclaredMethods()) {
            if (Modifier.isPublic(m.getModifiers())) {
                check.isTrue("README.md shows " + m.getName(), shown.contains(m.getName()));
            }
        }
        check.end();
    }

    /** Runs a line: the name of its call. */
    private static String run(WagonWays x, String line) throws ReflectiveOperationException {
        Matcher found = CALL.matcher(line);
        check.isTrue("an example with its answer: " + line, x != null && found.matches());
        if (x == null || !found.matches()) {
            return "";
        }
        Method call = named(found.group(1));
        long got = ((Number) call.invoke(x, numbers(call, found.group(2)))).longValue();
        check.due(line, got, Long.parseLong(found.group(3)));
        return call.getName();
    }

    private static Method named(String name) {
        for (Method m : WagonWays.class.getDeclaredMethods()) {
            if (m.getName().equals(name)) {
                return m;
            }
        }
        throw new IllegalStateException(name);
    }

    private static Object[] numbers(Method call, String told) {
        String[] texts = told.isEmpty() ? new String[0] : told.split(", *");
        Object[] numbers = new Object[texts.length];
        for (int i = 0; i < texts.length; i++) {
            long number = number(texts[i]);
            numbers[i] = call.getParameterTypes()[i] == long.class ? (Object) number : (Object) (int) number;
        }
        return numbers;
    }

    private static long number(String text) {
        Matcher word = WORD.matcher(text);
        if (word.matches()) {
            return Check.word(word.group(1));
        }
        if (text.equals("WagonWays.NONE")) {
            return WagonWays.NONE;
        }
        return Long.decode(text.endsWith("L") ? text.substring(0, text.length() - 1) : text);
    }
}
