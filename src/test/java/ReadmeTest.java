import java.io.IOException;
import java.lang.reflect.Method;
import java.lang.reflect.Modifier;
import java.nio.file.Files;
import java.nio.file.Path;
import java.util.Set;
import java.util.TreeSet;
import java.util.regex.Matcher;
import java.util.regex.Pattern;

/** Every call that README.md shows gives the answer that it shows, and no call of the class is left out. */
public final class ReadmeTest {
    private static final Pattern BLOCK = Pattern.compile("(?s)```java\n(.*?)```");
    private static final Pattern CALL = Pattern.compile("p\\.(\\w+)\\(([-\\d, ]*)\\); +// (true|false|BAD|NONE|\\d+)(: .*)?");
    private static final String MAKING = "CyclicPlanner p = new CyclicPlanner();";
    private static final Due due = new Due();
    private static final Set<String> shown = new TreeSet<>();
    private static final Set<String> refused = new TreeSet<>();
    private static CyclicPlanner planner;

    public static void main(String[] args) throws IOException, ReflectiveOperationException {
        String readme = Files.readString(Path.of("README.md"));
        Matcher block = BLOCK.matcher(readme);
        while (block.find()) for (String line : block.group(1).split("\n")) runLine(line);

        Set<String> calls = new TreeSet<>();
        for (Method m : CyclicPlanner.class.getDeclaredMethods()) {
            if (Modifier.isPublic(m.getModifiers())) calls.add(m.getName());
        }
        due.is("calls " + shown + " are all there are, which", shown.equals(calls), true);
        Set<String> canRefuse = Set.of("action", "goals", "steps", "luck", "sureAction");
        due.is("refusals of " + refused + " are all there are, which", refused.equals(canRefuse), true);
        due.is("the value of BAD", readme.contains("`CyclicPlanner.BAD` is " + CyclicPlanner.BAD + ","), true);
        due.is("the value of NONE", readme.contains("`CyclicPlanner.NONE` is " + CyclicPlanner.NONE + "."), true);
        due.is("how to run the tests", readme.contains("\n    .ci/run\n"), true);
        due.end();
    }

    private static void runLine(String line) throws ReflectiveOperationException {
        if (line.isBlank()) return;
        if (line.equals(MAKING)) {
            planner = new CyclicPlanner();
            return;
        }
        Matcher call = CALL.matcher(line);
        boolean canBeRun = call.matches() && planner != null;
        due.is("README.md can be run at: " + line, canBeRun, true);
        if (canBeRun) runCall(line, call.group(1), call.group(2), call.group(3));
    }

    private static void runCall(String line, String name, String arguments, String answer) throws ReflectiveOperationException {
        String[] words = arguments.isBlank() ? new String[0] : arguments.split(", ");
        Class<?>[] types = new Class<?>[words.length];
        Object[] values = new Object[words.length];
        for (int i = 0; i < words.length; i++) {
            types[i] = int.class;
            values[i] = Integer.valueOf(words[i]);
        }
        Object got = CyclicPlanner.class.getMethod(name, types).invoke(planner, values);
        due.is("README.md, where the class answers " + got + ": " + line, got.equals(meant(answer)), true);
        shown.add(name);
        if (Set.of("false", "BAD", "NONE").contains(answer)) refused.add(name);
    }

    private static Object meant(String answer) {
        return switch (answer) {
            case "true" -> true;
            case "false" -> false;
            case "BAD" -> CyclicPlanner.BAD;
            case "NONE" -> CyclicPlanner.NONE;
            default -> Integer.valueOf(answer);
        };
    }
}
