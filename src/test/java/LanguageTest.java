import java.io.IOException;
import java.nio.file.Files;
import java.nio.file.Path;
import java.util.regex.Matcher;
import java.util.regex.Pattern;

/** Rules of LANGUAGE.md that the source's text shows; it runs from the project's folder. */
public final class LanguageTest {
    private static final String[] NEVER = {
        "\\bthrow\\b", "\\btry\\b", "\\bcatch\\b", "\\bsynchronized\\b", "\\bassert\\b", "->", "::", "Exact\\b",
        "\\bpackage\\b", "\\bhashCode\\b", "\\btoString\\b", "\\bprotected\\b", "\\bdouble\\b", "\\bfloat\\b",
        "static \\{", "\\bRandom\\b", "\\bThread\\b", "\\bcurrentTimeMillis\\b", "\\bnanoTime\\b", "\\bnew [A-Za-z]+\\([^)]*\\) \\{",
    };
    private static final int MOST_LINES = 60;

    /** Comments become blanks, lines stay; the source has no texts that could look like one. */
    private static String withoutComments(String source) {
        return source.replaceAll("(?m)//.*$", "").replaceAll("(?s)/\\*.*?\\*/", "");
    }

    private static void methodsAreShort(String[] lines) {
        int start = -1;
        String end = "";
        for (int i = 0; i < lines.length; i++) {
            Matcher head = Pattern.compile("^( {4}| {8})[A-Za-z].*\\) \\{$").matcher(lines[i]);
            if (start < 0 && head.find()) {
                start = i;
                end = head.group(1) + "}";
            } else if (start >= 0 && lines[i].equals(end)) {
                Due.holds(lines[start].trim() + " has " + (i - start + 1) + " lines", i - start < MOST_LINES);
                start = -1;
            }
        }
    }

    private static void staticsAreFinal(String[] lines) {
        for (String line : lines) {
            if (line.contains("static ") && !line.contains("(") && !line.contains("class ") && !line.contains("import ")) {
                Due.holds(line.trim() + " is final", line.contains("static final "));
            }
        }
    }

    private static void importsAreListed(String[] lines) {
        for (String line : lines) {
            if (line.startsWith("import ")) {
                Due.holds(line, line.matches("import java\\.util\\.(Arrays|ArrayList|List|Iterator);"));
            }
        }
    }

    public static void main(String[] args) throws IOException {
        String source = Files.readString(Path.of("src/main/java/EachIsHit.java"));
        String code = withoutComments(source);
        for (String never : NEVER) {
            Matcher found = Pattern.compile(never).matcher(code);
            Due.holds("no " + never, !found.find());
        }
        Due.holds("signs are 1 to 127", source.chars().allMatch(sign -> sign >= 1 && sign <= 127));
        String[] lines = code.split("\n", -1);
        methodsAreShort(lines);
        staticsAreFinal(lines);
        importsAreListed(lines);
        Due.end("LanguageTest");
    }
}
