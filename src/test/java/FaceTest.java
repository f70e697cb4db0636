import java.lang.reflect.Constructor;
import java.lang.reflect.Field;
import java.lang.reflect.Method;
import java.lang.reflect.Modifier;
import java.nio.file.Files;
import java.nio.file.Path;
import java.util.Arrays;
import java.util.Set;
import java.util.TreeSet;
import java.util.regex.Matcher;
import java.util.regex.Pattern;

/** The public face is the document's and no other, and the source keeps to rules that can be read off it. */
public final class FaceTest {
    private static int wrong = 0;

    private static final String[] METHODS = {
        "int knot(int)", "int edge(int, int, int)", "int cut(int, int)", "int weigh(int, int)", "int weight(int, int)",
        "int beside(int)", "int put(int)", "int wipe()", "int make()", "int fills()", "int fewest()", "int least()",
        "int row(int)", "int below()", "int clear()", "int bag(int)", "int hang(int, int)", "int bagged(int, int)",
        "int sound()", "int width()", "int separator()", "int states(int)", "int factor(int, int)",
        "int pair(int, int, int, int)", "int forbid(int, int)", "long ways()", "long best(boolean)",
        "long bests(boolean)", "int choice(boolean, int)", "int drawn(long, int)", "long share(int, int)",
        "int count(int)"
    };
    private static final String[] FIELDS = {"int NONE", "int BAD", "int FULL", "int STATE", "long NO"};
    private static final String[] BANNED = {
        "throw", "try", "catch", "synchronized", "assert", "protected", "package", "Exact\\(", "->", "::", "static \\{"
    };

    private static void due(String what, Object got, Object want) {
        if (got.equals(want)) return;
        wrong++;
        System.out.println(what + ": " + got + ", due is " + want);
    }

    public static void main(String[] args) throws Exception {
        face();
        constants();
        ownMethodNames();
        source();
        System.out.println(wrong == 0 ? "all answers are as due" : wrong + " answers are not as due");
        if (wrong != 0) System.exit(1);
    }

    private static void face() {
        due("the class", Modifier.toString(BagTree.class.getModifiers()), "public final");
        Set<String> methods = new TreeSet<>();
        for (Method m : BagTree.class.getDeclaredMethods()) {
            if (Modifier.isPrivate(m.getModifiers())) continue;
            String takes = String.join(", ", Arrays.stream(m.getParameterTypes()).map(Class::getName).toList());
            methods.add(m.getReturnType().getName() + " " + m.getName() + "(" + takes + ")");
            due(m.getName(), Modifier.toString(m.getModifiers()), "public");
        }
        due("methods", methods, new TreeSet<>(Arrays.asList(METHODS)));
        Set<String> fields = new TreeSet<>();
        for (Field f : BagTree.class.getDeclaredFields()) {
            if (Modifier.isPrivate(f.getModifiers())) continue;
            fields.add(f.getType().getName() + " " + f.getName());
            due(f.getName(), Modifier.toString(f.getModifiers()), "public static final");
        }
        due("constants", fields, new TreeSet<>(Arrays.asList(FIELDS)));
        Constructor<?>[] made = BagTree.class.getDeclaredConstructors();
        due("constructors", made.length, 1);
        due("the constructor", made[0].toString(), "public BagTree()");
    }

    private static void constants() {
        due("NONE", BagTree.NONE, -1);
        due("BAD", BagTree.BAD, -2);
        due("FULL", BagTree.FULL, -3);
        due("STATE", BagTree.STATE, -4);
        due("NO", BagTree.NO, Long.MIN_VALUE);
    }

    /** No method of a class inside bears a name of the face either. */
    private static void ownMethodNames() {
        Set<String> names = new TreeSet<>();
        for (String method : METHODS) names.add(method.substring(method.indexOf(' ') + 1, method.indexOf('(')));
        for (Class<?> inside : BagTree.class.getDeclaredClasses()) {
            due(inside.getName() + " is static", Modifier.isStatic(inside.getModifiers()), true);
            for (Method m : inside.getDeclaredMethods()) {
                due(inside.getName() + "." + m.getName() + " is a name of the face", names.contains(m.getName()), false);
                due(m.getName() + " takes seven at most", m.getParameterCount() <= 7, true);
            }
        }
    }

    private static void source() throws Exception {
        String text = Files.readString(Path.of("src/main/java/BagTree.java"));
        String code = text.replaceAll("(?s)/\\*.*?\\*/", "").replaceAll("//[^\n]*", "");
        for (String banned : BANNED) {
            String word = Character.isLetter(banned.charAt(0)) && !banned.endsWith("{") && !banned.endsWith("(")
                ? "\\b" + banned + "\\b" : banned;
            Matcher m = Pattern.compile(word).matcher(code);
            due(banned + " stands in the source", m.find(), false);
        }
        Set<String> imports = new TreeSet<>();
        Matcher m = Pattern.compile("import ([^;]*);").matcher(code);
        while (m.find()) imports.add(m.group(1));
        due("imports", imports, Set.of("java.util.Arrays"));
    }
}
