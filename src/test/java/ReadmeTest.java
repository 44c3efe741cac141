import java.io.IOException;
import java.lang.reflect.Method;
import java.lang.reflect.Modifier;
import java.nio.file.Files;
import java.nio.file.Path;
import java.util.Set;
import java.util.TreeSet;
import java.util.regex.Matcher;
import java.util.regex.Pattern;

/** README.md's calls, made in their order on one object, answer as is written behind them. */
public final class ReadmeTest {
    private static final int MOST_CALLS = 512;
    private static final Pattern MADE = Pattern.compile("MayPole pole = new MayPole\\(\\);");
    private static final Pattern TOLD =
        Pattern.compile("for \\(char c : \"([^\"]*)\"\\.toCharArray\\(\\)\\) pole\\.type\\((\\d), c\\);( // .*)?");
    private static final Pattern ASKED = Pattern.compile("pole\\.(\\w+)\\(([^)]*)\\); +// (-?\\d+|[A-Z]+): .+");

    private final Set<String> shown = new TreeSet<>();
    private MayPole pole;
    private int calls = 0;

    public static void main(String[] args) throws IOException {
        String path = System.getProperty("maypole.readme", "README.md");
        new ReadmeTest().follow(Files.readString(Path.of(path)));
        Check.end("ReadmeTest");
    }

    private void follow(String readme) {
        boolean inCode = false;
        for (String line : readme.split("\n")) {
            if (line.startsWith("```")) inCode = line.equals("```java");
            else if (inCode) call(line);
        }
        for (Method m : MayPole.class.getDeclaredMethods()) {
            if (Modifier.isPublic(m.getModifiers())) Check.due("shown: " + m.getName(), shown.contains(m.getName()) ? 1 : 0, 1);
        }
        Check.due("calls in all are not too many", calls <= MOST_CALLS ? 1 : 0, 1);
    }

    private void call(String line) {
        Matcher told = TOLD.matcher(line), asked = ASKED.matcher(line);
        if (MADE.matcher(line).matches()) {
            pole = new MayPole();
        } else if (told.matches() && pole != null) {
            tell(told.group(1), told.group(2));
        } else if (asked.matches() && pole != null) {
            Check.due(line, answer(asked.group(1), asked.group(2)), numberOf(asked.group(3)));
        } else {
            Check.due("a line that no test can follow: " + line, 0, 1);
        }
    }

    private void tell(String bytes, String text) {
        shown.add("type");
        for (char c : bytes.toCharArray()) {
            calls++;
            int many = pole.type(Integer.parseInt(text), c);
            Check.due("type(" + text + ", " + c + ") is taken", many > 0 ? 1 : 0, 1);
        }
    }

    private long answer(String name, String arguments) {
        shown.add(name);
        calls++;
        String[] words = arguments.isEmpty() ? new String[0] : arguments.split(", ");
        Class<?>[] types = new Class<?>[words.length];
        Object[] numbers = new Object[words.length];
        for (int i = 0; i < words.length; i++) {
            types[i] = int.class;
            numbers[i] = (int) numberOf(words[i].replace("MayPole.", ""));
        }
        try {
            return ((Number) MayPole.class.getMethod(name, types).invoke(pole, numbers)).longValue();
        } catch (ReflectiveOperationException e) {
            System.out.println(name + "(" + arguments + "): " + e);
            System.exit(1);
            return 0;
        }
    }

    private static long numberOf(String word) {
        switch (word) {
            case "NONE": return MayPole.NONE;
            case "BAD": return MayPole.BAD;
            case "NOT": return MayPole.NOT;
            case "FULL": return MayPole.FULL;
            default: return Long.parseLong(word);
        }
    }
}
