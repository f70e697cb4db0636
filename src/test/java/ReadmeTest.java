import java.lang.reflect.InvocationTargetException;
import java.lang.reflect.Method;
import java.nio.file.Files;
import java.nio.file.Path;
import java.util.List;
import java.util.regex.Matcher;
import java.util.regex.Pattern;

/** The calls in README.md answer what stands behind them there, and every call of the face is named. */
public final class ReadmeTest {
    private static final Pattern NEW = Pattern.compile("BagTree x = new BagTree\\(\\);");
    private static final Pattern CALL = Pattern.compile("x\\.(\\w+)\\(([^)]*)\\);\\s*// (-?\\w+)(:.*)?");
    private static final Pattern ROW_OF_CALLS = Pattern.compile("\\| .*");
    private static int answers = 0;

    public static void main(String[] args) throws Exception {
        List<String> lines = Files.readAllLines(Path.of("README.md"));
        runExamples(lines);
        Trial.about("README.md names every call");
        String named = String.join("\n", lines.stream().filter(line -> ROW_OF_CALLS.matcher(line).matches()).toList());
        for (Method m : BagTree.class.getDeclaredMethods()) {
            if (!java.lang.reflect.Modifier.isPublic(m.getModifiers())) continue;
            Trial.due(m.getName() + " is named", named.contains("`" + m.getName() + "(") ? 1 : 0, 1);
        }
        Trial.end();
    }

    private static void runExamples(List<String> lines) throws Exception {
        BagTree x = null;
        boolean inCode = false;
        for (String line : lines) {
            if (line.startsWith("```")) {
                inCode = line.equals("```java");
                continue;
            }
            if (!inCode) continue;
            Trial.about("README.md: " + line);
            if (NEW.matcher(line).matches()) x = new BagTree();
            else runCall(x, line);
        }
        Trial.about("README.md has calls with answers");
        Trial.due("none are lost", answers >= 30 ? 1 : 0, 1);
    }

    /** A line that can't be read is as wrong as one with a wrong answer. */
    private static void runCall(BagTree x, String line) throws Exception {
        Matcher call = CALL.matcher(line);
        if (x == null || !call.matches()) {
            Trial.due("a line that can be run", 0, 1);
            return;
        }
        answers++;
        Trial.due(call.group(1), answer(x, call.group(1), call.group(2)), number(call.group(3)));
    }

    private static long answer(BagTree x, String name, String told) throws IllegalAccessException, InvocationTargetException {
        String[] words = told.isEmpty() ? new String[0] : told.split(", ");
        for (Method m : BagTree.class.getDeclaredMethods()) {
            if (!m.getName().equals(name)) continue;
            Object[] given = new Object[words.length];
            for (int i = 0; i < words.length; i++) given[i] = argument(m.getParameterTypes()[i], words[i]);
            return ((Number) m.invoke(x, given)).longValue();
        }
        throw new IllegalArgumentException("there is no call " + name);
    }

    private static Object argument(Class<?> type, String word) {
        if (type == boolean.class) return Boolean.valueOf(word);
        long number = number(word);
        return type == long.class ? (Object) number : (Object) (int) number;
    }

    private static long number(String word) {
        switch (word) {
            case "NONE": return BagTree.NONE;
            case "BAD": return BagTree.BAD;
            case "FULL": return BagTree.FULL;
            case "STATE": return BagTree.STATE;
            case "NO": return BagTree.NO;
            default: return word.startsWith("0b") ? Long.parseLong(word.substring(2), 2) : Long.parseLong(word);
        }
    }
}
