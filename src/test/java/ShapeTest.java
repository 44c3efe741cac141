import java.io.IOException;
import java.lang.reflect.Field;
import java.lang.reflect.Method;
import java.lang.reflect.Modifier;
import java.nio.file.Files;
import java.nio.file.Path;
import java.util.ArrayList;
import java.util.HashMap;
import java.util.HashSet;
import java.util.List;
import java.util.Map;
import java.util.Set;
import java.util.regex.Matcher;
import java.util.regex.Pattern;

/** The sizes that LANGUAGE.md sets, and what it says of static fields and of calls within calls. */
public final class ShapeTest {
    private static final int MOST_LINES = 60, MOST_PARAMETERS = 7, MOST_DEEP = 8, MOST_CLASSES = 12, MOST_FIELDS = 20;
    private static final Set<Class<?>> STATIC_TYPES = Set.of(int.class, long.class, boolean.class, char.class,
        String.class, int[].class, long[].class, char[].class, byte[].class);
    private static final Pattern METHOD =
        Pattern.compile("^( {4}| {8})(?:public|private) (?:static )?(?:[\\w\\[\\]]+ )?(\\w+)\\([^)]*\\) \\{$");

    public static void main(String[] args) throws IOException {
        List<Class<?>> all = new ArrayList<>(List.of(MayPole.class.getDeclaredClasses()));
        all.add(MayPole.class);
        Check.due("classes are not too many", all.size() <= MOST_CLASSES ? 1 : 0, 1);
        int methods = 0;
        for (Class<?> c : all) {
            fields(c);
            for (Method m : c.getDeclaredMethods()) {
                String name = c.getSimpleName() + "." + m.getName();
                Check.due(name + " takes too many", m.getParameterCount() <= MOST_PARAMETERS ? 1 : 0, 1);
            }
            methods += c.getDeclaredMethods().length;
        }
        String path = System.getProperty("maypole.source", "src/main/java/MayPole.java");
        Map<String, String> bodies = bodies(Files.readAllLines(Path.of(path)));
        Check.due("every method is looked at", bodies.size() >= methods ? 1 : 0, 1);
        for (String name : bodies.keySet()) {
            Check.due("calls within " + name + " go too deep", depth(name, bodies, new HashSet<>()) <= MOST_DEEP ? 1 : 0, 1);
        }
        Check.end("ShapeTest");
    }

    private static void fields(Class<?> c) {
        int own = 0;
        for (Field f : c.getDeclaredFields()) {
            if (!Modifier.isStatic(f.getModifiers())) {
                own++;
                continue;
            }
            Check.due("static " + f.getName() + " is final", Modifier.isFinal(f.getModifiers()) ? 1 : 0, 1);
            Check.due("static " + f.getName() + " is of such a type", STATIC_TYPES.contains(f.getType()) ? 1 : 0, 1);
        }
        Check.due("fields of " + c.getSimpleName() + " are not too many", own <= MOST_FIELDS ? 1 : 0, 1);
    }

    /** Each method's lines by its name; the names of methods of two classes differ here, or are taken together. */
    private static Map<String, String> bodies(List<String> lines) {
        Map<String, String> all = new HashMap<>();
        for (int from = 0; from < lines.size(); from++) {
            Matcher head = METHOD.matcher(lines.get(from));
            if (!head.matches()) continue;
            int to = from + 1;
            while (!lines.get(to).equals(head.group(1) + "}")) to++;
            Check.due("lines of " + head.group(2) + " are not too many", to - from + 1 <= MOST_LINES ? 1 : 0, 1);
            String key = all.containsKey(head.group(2)) ? head.group(2) + " of line " + from : head.group(2);
            all.put(key, String.join("\n", lines.subList(from + 1, to)));
        }
        return all;
    }

    /** How many calls stand open at most, this one among them; none calls itself, through others neither. */
    private static int depth(String name, Map<String, String> bodies, Set<String> open) {
        if (!open.add(name)) {
            Check.due(name + " calls itself", 1, 0);
            return 0;
        }
        int most = 0;
        for (String other : bodies.keySet()) {
            String called = "\\b" + other.split(" ")[0] + "\\(";
            if (Pattern.compile(called).matcher(bodies.get(name)).find()) most = Math.max(most, depth(other, bodies, open));
        }
        open.remove(name);
        return most + 1;
    }
}
