import java.lang.reflect.Constructor;
import java.lang.reflect.Field;
import java.lang.reflect.Method;
import java.lang.reflect.Modifier;
import java.util.Arrays;
import java.util.Set;
import java.util.TreeSet;

/** The class shows the document's face and nothing beside it. */
public final class FaceTest {
    private static int wrong = 0;

    private static void check(String what, Object got, Object want) {
        if (!got.equals(want)) {
            wrong++;
            System.out.println(what + ": is " + got + ", due is " + want);
        }
    }

    public static void main(String[] args) throws ReflectiveOperationException {
        check("class is public and final", ContactNetwork.class.getModifiers(), Modifier.PUBLIC | Modifier.FINAL);
        check("methods", methods(), new TreeSet<>(Arrays.asList(
            "contact/3", "cancel/1", "booked/1", "send/3", "pass/1", "time/0", "state/1", "arrival/1",
            "hops/1", "hop/2", "place/1", "quote/2", "reach/3", "latest/3")));
        check("constants", constants(), new TreeSet<>(Arrays.asList("BAD=-1", "NONE=-2", "FULL=-3", "LATE=-4")));
        Constructor<?>[] made = ContactNetwork.class.getDeclaredConstructors();
        check("number of constructors", made.length, 1);
        check("constructor's parameters", made[0].getParameterCount(), 0);
        check("constructor's modifiers", made[0].getModifiers(), Modifier.PUBLIC);
        check("nested classes", ContactNetwork.class.getDeclaredClasses().length, 0);
        System.out.println(wrong == 0 ? "the face is as due" : wrong + " parts of the face are not as due");
        if (wrong != 0) {
            System.exit(1);
        }
    }

    private static Set<String> methods() {
        Set<String> seen = new TreeSet<>();
        for (Method m : ContactNetwork.class.getDeclaredMethods()) {
            if (Modifier.isPrivate(m.getModifiers())) {
                continue;
            }
            check(m.getName() + " modifiers", m.getModifiers(), Modifier.PUBLIC);
            check(m.getName() + " answers", m.getReturnType(), int.class);
            for (Class<?> type : m.getParameterTypes()) {
                check(m.getName() + " takes", type, int.class);
            }
            seen.add(m.getName() + "/" + m.getParameterCount());
        }
        return seen;
    }

    private static Set<String> constants() throws IllegalAccessException {
        Set<String> seen = new TreeSet<>();
        for (Field f : ContactNetwork.class.getDeclaredFields()) {
            if (Modifier.isPrivate(f.getModifiers())) {
                continue;
            }
            check(f.getName() + " modifiers", f.getModifiers(), Modifier.PUBLIC | Modifier.STATIC | Modifier.FINAL);
            check(f.getName() + " type", f.getType(), int.class);
            seen.add(f.getName() + "=" + f.getInt(null));
        }
        return seen;
    }
}
