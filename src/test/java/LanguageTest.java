import java.io.IOException;
import java.lang.reflect.Field;
import java.lang.reflect.Method;
import java.lang.reflect.Modifier;
import java.nio.file.Files;
import java.nio.file.Path;
import java.util.regex.Matcher;
import java.util.regex.Pattern;

/** Rules of LANGUAGE.md that the source's text shows; it runs from the project's folder. */
public final class LanguageTest {
    private static final String[] NEVER = {
        "\\bthrow\\b", "\\btry\\b", "\\bcatch\\b", "\\bsynchronized\\b", "\\bassert\\b", "->", "::", "Exact\\b",
        "\\bpackage\\b", "\\bhashCode\\b", "\\btoString\\b", "\\bprotected\\b", "\\bdouble\\b", "\\bfloat\\b",
        "static \\{", "while \\(true\\)", ";;", "\\bRandom\\b", "\\bThread\\b", "\\bcurrentTimeMillis\\b",
        "\\bnanoTime\\b", "\\bnew [A-Za-z]+\\([^)]*\\) \\{",
    };
    private static final int MOST_LINES = 60;
    private static final int MOST_PARAMETERS = 7;
    private static final int MOST_FIELDS = 20;
    private static final int MOST_CLASSES = 12;
    private static final String LIBRARY = "(Math|Integer|Long)\\.(?!\\w*Exact)\\w+|System\\.arraycopy"
        + "|Arrays\\.(fill|copyOf|copyOfRange)|List\\.of";

    /** Comments become blanks, lines stay; the source has no texts that could look like one. */
    private static String withoutComments(String source) {
        return source.replaceAll("(?m)//.*$", "").replaceAll("(?s)/\\*.*?\\*/", "");
    }

    private static void methodsAreShort(String[] lines) {
        int start = -1;
        String end = "";
        for (int i = 0; i < lines.length; i++) {
            Matcher head = Pattern.compile("^( {4}| {8})[A-Za-z].*\\) \\{$").matcher(lines[i]);
            if (start < 0 && head.find()) {
                start = i;
                end = head.group(1) + "}";
            } else if (start >= 0 && lines[i].equals(end)) {
                Due.holds(lines[start].trim() + " has " + (i - start + 1) + " lines", i - start < MOST_LINES);
                start = -1;
            }
        }
    }

    private static void staticsAreFinal(String[] lines) {
        for (String line : lines) {
            if (line.contains("static ") && !line.contains("(") && !line.contains("class ") && !line.contains("import ")) {
                Due.holds(line.trim() + " is final", line.contains("static final "));
            }
        }
    }

    private static void importsAreListed(String[] lines) {
        for (String line : lines) {
            if (line.startsWith("import ")) {
                Due.holds(line, line.matches("import java\\.util\\.(Arrays|ArrayList|List|Iterator);"));
            }
        }
    }

    /** Each call of a static method of another class is one of those that rule 4 lists. */
    private static void callsAreListed(String code) {
        Matcher call = Pattern.compile("\\b([A-Z]\\w*\\.\\w+)\\(").matcher(code);
        while (call.find()) {
            Due.holds(call.group(1) + " is listed", call.group(1).matches(LIBRARY));
        }
    }

    private static void classIsSmall(Class<?> one) {
        int fields = 0;
        for (Field field : one.getDeclaredFields()) {
            boolean isStatic = Modifier.isStatic(field.getModifiers());
            fields += isStatic ? 0 : 1;
            Due.holds(field + " is final, if it is static", !isStatic || Modifier.isFinal(field.getModifiers()));
            Due.holds(field + " is of a type that rule 3 lists", isListed(field.getType()));
        }
        Due.holds(one + " has " + fields + " fields", fields <= MOST_FIELDS);
        for (Method method : one.getDeclaredMethods()) {
            Due.holds(method + " takes seven at most", method.getParameterCount() <= MOST_PARAMETERS);
        }
        int inside = one.getDeclaredClasses().length;
        Due.holds(one + " has " + inside + " classes", inside < MOST_CLASSES);
        for (Class<?> other : one.getDeclaredClasses()) {
            Due.holds(other + " is static", Modifier.isStatic(other.getModifiers()));
            classIsSmall(other);
        }
    }

    /** Numbers, own classes, rows of these, and rows of rows of numbers. */
    private static boolean isListed(Class<?> type) {
        Class<?> part = type.isArray() ? type.getComponentType() : type;
        if (part.isArray()) {
            return part.getComponentType().isPrimitive();
        }
        return part.isPrimitive() || part.getName().startsWith("EachIsHit$");
    }

    public static void main(String[] args) throws IOException {
        String source = Files.readString(Path.of("src/main/java/EachIsHit.java"));
        String code = withoutComments(source);
        for (String never : NEVER) {
            Matcher found = Pattern.compile(never).matcher(code);
            Due.holds("no " + never, !found.find());
        }
        Due.holds("signs are 1 to 127", source.chars().allMatch(sign -> sign >= 1 && sign <= 127));
        String[] lines = code.split("\n", -1);
        methodsAreShort(lines);
        staticsAreFinal(lines);
        importsAreListed(lines);
        callsAreListed(code);
        classIsSmall(EachIsHit.class);
        Due.end("LanguageTest");
    }
}
