import java.lang.reflect.Constructor;
import java.lang.reflect.Field;
import java.lang.reflect.Method;
import java.lang.reflect.Modifier;
import java.util.Arrays;
import java.util.Set;
import java.util.TreeSet;

/** The class has the document's public face and no other member that is not private. */
public final class FaceTest {
    private static final Set<String> FACE = new TreeSet<>(Arrays.asList(
        "set/2", "sow/2", "close/2", "capacity/1", "between/2", "flow/0", "weight/1", "firstCut/0",
        "lastCut/0", "leastWith/1", "leastWithout/1", "loss/1", "gain/2", "way/2", "cutStreets/0"));

    public static void main(String[] args) {
        Class<?> c = GridDuals.class;
        Due.holds("public and final", Modifier.isPublic(c.getModifiers()) && Modifier.isFinal(c.getModifiers()));
        methods(c);
        for (Field f : c.getDeclaredFields()) {
            Due.holds("field " + f.getName() + " is private", Modifier.isPrivate(f.getModifiers()));
        }
        Constructor<?>[] made = c.getDeclaredConstructors();
        Due.holds("one public constructor without parameters", made.length == 1
            && Modifier.isPublic(made[0].getModifiers()) && made[0].getParameterCount() == 0);
        Due.holds("no nested class", c.getDeclaredClasses().length == 0);
        Due.end();
    }

    private static void methods(Class<?> c) {
        Set<String> seen = new TreeSet<>();
        for (Method m : c.getDeclaredMethods()) {
            if (Modifier.isPrivate(m.getModifiers())) {
                continue;
            }
            seen.add(m.getName() + "/" + m.getParameterCount());
            Due.holds(m + " is public, of the object, over int", Modifier.isPublic(m.getModifiers())
                && !Modifier.isStatic(m.getModifiers()) && m.getReturnType() == int.class
                && Arrays.stream(m.getParameterTypes()).allMatch(t -> t == int.class));
        }
        Due.holds("methods " + seen, seen.equals(FACE));
    }
}
