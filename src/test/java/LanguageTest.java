import java.io.IOException;
import java.nio.file.Files;
import java.nio.file.Path;
import java.util.Arrays;
import java.util.List;
import java.util.Set;
import java.util.TreeSet;
import java.util.regex.Matcher;
import java.util.regex.Pattern;

/** Words and signs that LANGUAGE.md leaves out do not stand in the program. Runs in the project's folder. */
public final class LanguageTest {
    private static final Check CHECK = new Check();
    private static final int LONGEST_METHOD = 60;
    private static final List<String> RULED_OUT = Arrays.asList(
        "\\b(throw|throws|try|catch|synchronized|assert|import|package|native|volatile|transient)\\b",
        "->", "::", "\\bhashCode\\b", "\\btoString\\b", "\\bObject\\b", "\\bvar\\b", "Exact\\b",
        "\\bstatic\\s*\\{", "@", "[^\\x00-\\x7F]");
    private static final Set<String> LIBRARY = new TreeSet<>(Arrays.asList(
        "Integer.bitCount", "Math.max", "Math.min", "System.arraycopy"));

    public static void main(String[] args) throws IOException {
        CHECK.about("the language");
        String text = Files.readString(Path.of("src/main/java/CircusRoad.java"));
        String code = text.replaceAll("(?s)/\\*.*?\\*/", "").replaceAll("//[^\n]*", "");
        for (String pattern : RULED_OUT) {
            Matcher found = Pattern.compile(pattern).matcher(code);
            CHECK.that(pattern + " stands in the program", !found.find());
        }
        Matcher library = Pattern.compile("\\b(Integer|Long|Math|System|Arrays|Character|Boolean)\\.\\w+").matcher(code);
        while (library.find()) {
            CHECK.that(library.group() + " is used", LIBRARY.contains(library.group()));
        }
        methodsAreShort(text.split("\n"));
        CHECK.end();
    }

    private static void methodsAreShort(String[] lines) {
        int start = 0;
        for (int i = 0; i < lines.length; i++) {
            if (lines[i].matches(" {4,8}(public|private) .*\\) \\{")) {
                start = i;
            }
            if (lines[i].matches(" {4,8}\\}")) {
                CHECK.that("a method is long, to line " + (i + 1), i - start < LONGEST_METHOD || lines[i].startsWith("    }"));
            }
        }
    }
}
