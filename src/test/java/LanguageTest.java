import java.io.IOException;
import java.nio.file.Files;
import java.nio.file.Path;
import java.util.regex.Matcher;
import java.util.regex.Pattern;

/** Those rules of LANGUAGE.md that can be seen in the program's text. It is run from the project's folder. */
public final class LanguageTest {
    private static final String[] FORBIDDEN = {
        "\\b(throw|throws|try|catch|finally|synchronized|assert|volatile|native|package)\\b",
        "\\bimport (?!java\\.util\\.(ArrayList|List|Arrays|Iterator);)",
        "(?m)^(?!\\s*(case|default)\\b).*->", "::", "\\b(hashCode|getClass|Object|Random|Thread|Exception)\\b",
        "\\w+Exact\\(", "\\bSystem\\.(?!arraycopy\\b)", "\\bwhile\\s*\\(true\\)", "\\bfor\\s*\\(\\s*;",
        "\\bstatic\\s*\\{", "\" ?\\+", "\\+ ?\""};

    /** The rules say some sixty lines. */
    private static final int LONGEST_METHOD = 70;

    public static void main(String[] args) throws IOException {
        String text = Files.readString(Path.of("src/main/java/ThreadedArchive.java"));
        String code = text.replaceAll("(?s)/\\*.*?\\*/", "").replaceAll("//[^\\n]*", "");
        for (String forbidden : FORBIDDEN) {
            Matcher matcher = Pattern.compile(forbidden).matcher(code);
            Check.due("'" + forbidden + "' is not in the program", !matcher.find());
        }
        Check.due("the program is plain ASCII", text.chars().allMatch(c -> c < 128));
        dueShortMethods(code);
        Check.end();
    }

    /** A method begins at a line that ends with "{" and has a modifier, and ends at the "}" below its first letter. */
    private static void dueShortMethods(String code) {
        Matcher matcher = Pattern.compile("(?m)^( +)(?:public|private)[^=;]*\\([^;=]*\\) \\{$").matcher(code);
        int methods = 0;
        while (matcher.find()) {
            int end = code.indexOf("\n" + matcher.group(1) + "}", matcher.end());
            long lines = code.substring(matcher.start(), end).chars().filter(c -> c == '\n').count();
            Check.due(matcher.group().trim() + " is short", lines <= LONGEST_METHOD);
            methods++;
        }
        Check.due("methods were seen", methods > 17);
    }
}
