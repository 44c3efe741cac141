import java.io.IOException;
import java.nio.file.Files;
import java.nio.file.Path;
import java.util.regex.Matcher;
import java.util.regex.Pattern;

/** What of LANGUAGE.md can be seen in the source's words. */
public final class LanguageTest {
    private static final String[] RULED_OUT = {
        "\\bthrow\\b", "\\bthrows\\b", "\\btry\\b", "\\bcatch\\b", "\\bassert\\b", "\\bsynchronized\\b", "->", "::",
        "\\bpackage\\b", "Exact\\b", "\\bRandom\\b", "\\bThread\\b", "currentTimeMillis", "nanoTime", "\\bprotected\\b",
        "\\bwhile\\s*\\(\\s*true", "\\bstatic\\s*\\{", "\\bhashCode\\b", "\\btoString\\b"};

    public static void main(String[] args) throws IOException {
        String path = System.getProperty("maypole.source", "src/main/java/MayPole.java");
        String source = Files.readString(Path.of(path));
        String code = source.replaceAll("(?s)/\\*.*?\\*/", "").replaceAll("//[^\\n]*", "");
        for (String ruledOut : RULED_OUT) {
            Matcher m = Pattern.compile(ruledOut).matcher(code);
            Check.due("words like " + ruledOut, m.find() ? 1 : 0, 0);
        }
        Matcher imports = Pattern.compile("import ([\\w.]+);").matcher(code);
        while (imports.find()) Check.due("import " + imports.group(1), imports.group(1).equals("java.util.Arrays") ? 1 : 0, 1);
        for (int i = 0; i < source.length(); i++) {
            if (source.charAt(i) > 126) Check.due("sign at " + i, source.charAt(i), ' ');
        }
        Check.end("LanguageTest");
    }
}
