import java.lang.reflect.Constructor;
import java.lang.reflect.Field;
import java.lang.reflect.Member;
import java.lang.reflect.Method;
import java.lang.reflect.Modifier;
import java.util.Set;
import java.util.TreeSet;

/** The public face is the document's, and no other member can be seen from outside. */
public final class FaceTest {
    private static final String[] FACE = {
        "type ii", "wipe i", "undo i", "fault i", "dancer ii", "steps i", "ribbons i", "event iii", "back ", "read i",
        "at iii", "high ii", "weave ii", "shows i", "sum i", "run i", "bare ", "top ", "lacks ",
        "step ii", "begin ii", "dress ii", "spare i", "seen ii", "forget ", "never ", "ways i", "lengths ", "ask ",
        "chance iii L", "dances iii", "sheet iii", "lose i", "lay iiii", "get iii", "copy iiiii", "write i", "count i",
        "digest  L"};

    public static void main(String[] args) {
        Set<String> due = new TreeSet<>(Set.of(FACE)), got = new TreeSet<>(), names = new TreeSet<>();
        for (Method m : MayPole.class.getDeclaredMethods()) {
            if (!isPrivate(m)) {
                got.add(told(m));
                names.add(m.getName());
            }
        }
        if (!due.equals(got)) System.out.println("due: " + due + "\ngot: " + got);
        Check.due("methods", due.equals(got) ? 1 : 0, 1);
        privateNamesAreOthers(names);
        Set<String> constants = new TreeSet<>();
        for (Field f : MayPole.class.getDeclaredFields()) {
            if (!isPrivate(f)) constants.add(f.getName());
        }
        Check.due("constants", constants.equals(Set.of("NONE", "BAD", "NOT", "FULL")) ? 1 : 0, 1);
        Check.due("NONE", MayPole.NONE, -1);
        Check.due("BAD", MayPole.BAD, -2);
        Check.due("NOT", MayPole.NOT, -3);
        Check.due("FULL", MayPole.FULL, -4);
        Constructor<?>[] made = MayPole.class.getDeclaredConstructors();
        Check.due("constructors", made.length, 1);
        Check.due("final and public", MayPole.class.getModifiers(), Modifier.PUBLIC | Modifier.FINAL);
        Check.end("FaceTest");
    }

    private static void privateNamesAreOthers(Set<String> names) {
        for (Method m : MayPole.class.getDeclaredMethods()) {
            if (isPrivate(m)) Check.due("private " + m.getName(), names.contains(m.getName()) ? 1 : 0, 0);
        }
        for (Class<?> inside : MayPole.class.getDeclaredClasses()) {
            Check.due("static " + inside.getName(), Modifier.isStatic(inside.getModifiers()) ? 1 : 0, 1);
            for (Method m : inside.getDeclaredMethods()) {
                Check.due("inside " + m.getName(), names.contains(m.getName()) ? 1 : 0, 0);
            }
        }
    }

    private static boolean isPrivate(Member m) {
        return Modifier.isPrivate(m.getModifiers());
    }

    private static String told(Method m) {
        StringBuilder b = new StringBuilder(m.getName()).append(' ');
        for (Class<?> c : m.getParameterTypes()) b.append(c == int.class ? "i" : "?");
        if (m.getReturnType() == long.class) b.append(" L");
        else if (m.getReturnType() != int.class) b.append(" ?");
        return b.toString();
    }
}
