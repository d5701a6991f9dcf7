import java.lang.reflect.Constructor;
import java.lang.reflect.Field;
import java.lang.reflect.Method;
import java.lang.reflect.Modifier;
import java.util.List;
import java.util.Set;
import java.util.TreeSet;

/** The public face is that of the document, and the members keep to the rules 1, 2, 5 and 10 of LANGUAGE.md. */
public final class FaceTest {
    private static final Set<String> FACE = new TreeSet<>(List.of(
        "secret/2", "give/3", "giveMany/3", "take/2", "clear/1", "held/1", "holds/2", "common/2",
        "commonItem/3", "commonWeight/2", "commonToAll/0", "itemOfAll/1", "any/0", "heldByJust/1",
        "alone/1", "within/2", "traffic/0"));
    private static final Set<Class<?>> NUMBERS = Set.of(
        int.class, long.class, short.class, byte.class, char.class, boolean.class);

    private static int wrong = 0;

    private static void due(String what, boolean is) {
        if (!is) {
            wrong++;
            System.out.println("not as due: " + what);
        }
    }

    public static void main(String[] args) {
        Class<?> c = PrivateIntersect.class;
        due("a public class", Modifier.isPublic(c.getModifiers()));
        due("a final class", Modifier.isFinal(c.getModifiers()));
        due("no package", c.getPackageName().isEmpty());
        due("no class above or inside", c.getSuperclass() == Object.class
            && c.getInterfaces().length == 0 && c.getDeclaredClasses().length == 0);
        checkConstructor(c);
        checkMethods(c);
        checkFields(c);
        System.out.println(wrong == 0 ? "the face is as due" : wrong + " things are not as due");
        if (wrong != 0) {
            System.exit(1);
        }
    }

    private static void checkConstructor(Class<?> c) {
        Constructor<?>[] all = c.getDeclaredConstructors();
        due("one constructor", all.length == 1);
        due("it is public", Modifier.isPublic(all[0].getModifiers()));
        due("it takes three ints", List.of(all[0].getParameterTypes()).equals(List.of(int.class, int.class, int.class)));
    }

    private static void checkMethods(Class<?> c) {
        Set<String> found = new TreeSet<>();
        Set<String> faceNames = new TreeSet<>();
        for (String entry : FACE) {
            faceNames.add(entry.substring(0, entry.indexOf('/')));
        }
        for (Method m : c.getDeclaredMethods()) {
            due(m + ": at most seven parameters", m.getParameterCount() <= 7);
            if (Modifier.isPrivate(m.getModifiers())) {
                due(m + ": no name of a public one", !faceNames.contains(m.getName()));
                continue;
            }
            due(m + ": a public method of an object",
                Modifier.isPublic(m.getModifiers()) && !Modifier.isStatic(m.getModifiers()));
            due(m + ": answers an int", m.getReturnType() == int.class);
            for (Class<?> type : m.getParameterTypes()) {
                due(m + ": takes ints", type == int.class);
            }
            found.add(m.getName() + "/" + m.getParameterCount());
        }
        due("the methods of the document, found " + found, found.equals(FACE));
    }

    private static void checkFields(Class<?> c) {
        for (Field f : c.getDeclaredFields()) {
            Class<?> type = f.getType();
            due(f + ": private", Modifier.isPrivate(f.getModifiers()));
            if (Modifier.isStatic(f.getModifiers())) {
                due(f + ": a constant", Modifier.isFinal(f.getModifiers()) && (type == int.class || type == long.class));
            } else {
                due(f + ": a number or an array of numbers",
                    NUMBERS.contains(type.isArray() ? type.getComponentType() : type));
            }
        }
    }
}
