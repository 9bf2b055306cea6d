import java.io.IOException;
import java.lang.reflect.Field;
import java.lang.reflect.Method;
import java.lang.reflect.Modifier;
import java.nio.file.Files;
import java.nio.file.Path;
import java.util.HashSet;
import java.util.Set;
import java.util.regex.Matcher;
import java.util.regex.Pattern;

/** Those rules of LANGUAGE.md that can be seen from the class and the words of its source. */
public final class LanguageTest {
    private static final Path SOURCE = Path.of("src/main/java/CyclicPlanner.java");
    private static final Set<String> NO_WORDS = Set.of("package", "import", "float", "double", "null", "throw", "throws",
        "try", "catch", "finally", "synchronized", "assert", "instanceof", "interface", "enum", "record", "var",
        "hashCode", "equals", "toString", "getClass", "clone");
    private static final Set<Class<?>> TYPES = Set.of(int.class, long.class, short.class, byte.class, char.class, boolean.class);
    private static final Due due = new Due();

    public static void main(String[] args) throws IOException {
        String code = Files.readString(SOURCE).replaceAll("(?s)/\\*.*?\\*/", " ").replaceAll("//[^\n]*", " ");
        words(code);
        arraysAreFields(code);
        fields();
        methods();
        due.end();
    }

    private static void words(String code) {
        Matcher word = Pattern.compile("[A-Za-z_]\\w*").matcher(code);
        while (word.find()) {
            String w = word.group();
            boolean otherClass = w.matches("[A-Z]\\w*[a-z]\\w*") && !w.equals("CyclicPlanner");
            due.is("2, 3, 6: the word " + w, NO_WORDS.contains(w) || otherClass, false);
        }
        for (String sign : new String[] {"->", "::", "\"", "@", "static {"}) due.is("5, 6: " + sign, code.contains(sign), false);
    }

    private static void arraysAreFields(String code) {
        int made = code.split("\\bnew\\b", -1).length - 1;
        Matcher field = Pattern.compile("\n    private final \\w+\\[\\] \\w+ = new \\w+\\[[A-Z0-9_]+\\];").matcher(code);
        int inFields = 0;
        while (field.find()) inFields++;
        due.is("4: arrays made outside of a field's initialiser", made - inFields, 0);
    }

    private static void fields() {
        int beside = 0;
        for (Field f : CyclicPlanner.class.getDeclaredFields()) {
            Class<?> t = f.getType();
            boolean constant = Modifier.isStatic(f.getModifiers());
            if (!constant) beside++;
            if (constant) due.is("5: " + f, Modifier.isFinal(f.getModifiers()) && (t == int.class || t == long.class), true);
            due.is("2: " + f, TYPES.contains(t.isArray() ? t.getComponentType() : t), true);
        }
        due.is("10: at most 40 fields", beside <= 40, true);
    }

    private static void methods() {
        Set<String> names = new HashSet<>();
        for (Method m : CyclicPlanner.class.getDeclaredMethods()) {
            due.is("1: one method of the name " + m.getName(), names.add(m.getName()), true);
            due.is("10: at most 7 parameters, " + m, m.getParameterCount() <= 7, true);
            due.is("4: no array is answered, " + m, m.getReturnType().isArray(), false);
            if (m.getReturnType() != void.class) due.is("2: " + m, TYPES.contains(m.getReturnType()), true);
            for (Class<?> t : m.getParameterTypes()) {
                due.is("2: " + m, TYPES.contains(t.isArray() ? t.getComponentType() : t), true);
            }
        }
    }
}
