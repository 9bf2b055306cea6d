import java.lang.reflect.Constructor;
import java.lang.reflect.Field;
import java.lang.reflect.Method;
import java.lang.reflect.Modifier;
import java.util.Set;
import java.util.TreeSet;

/** The class has the public face of the document, and nothing beside it that is not private. */
public final class FaceTest {
    public static void main(String[] args) {
        Due due = new Due();
        Class<?> c = CyclicPlanner.class;
        due.is("public final", Modifier.isPublic(c.getModifiers()) && Modifier.isFinal(c.getModifiers()), true);
        due.is("nested classes", c.getDeclaredClasses().length, 0);

        Set<String> face = new TreeSet<>();
        for (Field f : c.getDeclaredFields()) {
            if (!Modifier.isPrivate(f.getModifiers())) face.add(f.toString());
        }
        for (Constructor<?> k : c.getDeclaredConstructors()) {
            if (!Modifier.isPrivate(k.getModifiers())) face.add(k.toString());
        }
        for (Method m : c.getDeclaredMethods()) {
            if (!Modifier.isPrivate(m.getModifiers())) face.add(m.toString());
        }
        Set<String> wanted = new TreeSet<>(Set.of(
            "public static final int CyclicPlanner.BAD",
            "public static final int CyclicPlanner.NONE",
            "public CyclicPlanner()",
            "public boolean CyclicPlanner.action(int,int,int)",
            "public boolean CyclicPlanner.goals(int)",
            "public int CyclicPlanner.weak()",
            "public int CyclicPlanner.safe()",
            "public int CyclicPlanner.sure()",
            "public int CyclicPlanner.steps(int)",
            "public int CyclicPlanner.luck(int)",
            "public int CyclicPlanner.safeActions(int)",
            "public int CyclicPlanner.sureAction(int)",
            "public int CyclicPlanner.prune()",
            "public int CyclicPlanner.hopeful()"));
        due.is("the face is " + face + ", which", face.equals(wanted), true);
        due.is("BAD", CyclicPlanner.BAD, -1);
        due.is("NONE", CyclicPlanner.NONE, -2);
        due.end();
    }
}
