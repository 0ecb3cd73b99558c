import java.io.IOException;
import java.lang.reflect.Field;
import java.lang.reflect.Method;
import java.lang.reflect.Modifier;
import java.nio.file.Files;
import java.nio.file.Path;
import java.util.Arrays;
import java.util.List;
import java.util.Map;
import java.util.Set;
import java.util.TreeMap;
import java.util.TreeSet;
import java.util.regex.Matcher;
import java.util.regex.Pattern;

/**
 * All words of the document by which a call answers or changes something stand above a test, as what it Says. The words
 * are looked for with the promise by which the test is named, or else ahead of all promises. The class's face is the
 * document's.
 */
public final class DocumentTest {
    private static final Path DOCUMENT = Path.of("../shared/DOC.md");
    private static final int PROMISES = 40;
    private static final int AHEAD = 0;
    // 39 methods, 8 constants.
    private static final int FACE = 47;

    static final List<Class<?>> TESTS = List.of(FamiliesBoundsTest.class, HitsBoundsTest.class, RulesBoundsTest.class,
        SheetsBoundsTest.class, TermsBoundsTest.class, SentencesTest.class);

    /** Ahead of the promises: words by which no call answers or changes anything. */
    private static final String[] OPEN = {
        // What the promises say, in short.
        "Least sets that hit each one of a family: families of sets that keep the order in which they came and how "
            + "often each was told; which sets hit all of a family and can spare no point, all of them, in order; "
            + "whether one family is just what hits another one, and if not, by what; a tree that splits by the point "
            + "that is in most; keys by which all of a family are told apart; what is common and what just isn't, by "
            + "how often; families that are made by rule; what a set is worth by rules that are put together from "
            + "rules, with prices as they were; tests that are counted over all sets; acts that are undone; sets "
            + "packed five to a number; an image.",
        "what later calls answer is free.",
        // FaceTest sees to it that all numbers are ints and longs.
        "All numbers are whole.",
        // As no set of a node is a part of another one, there are no like ones when a point is taken from each.
        "(of like ones one stays),",
        // Numbers of parts.
        "==== 1", "==== 2", "==== 3",
        // Which calls stand together.
        "Ahead of the calls `price`, `priceOf`, `tell`, `take`, `tally`, `at`, `size`, `wipe`, `copy`, `undo` the "
            + "interface says: ---- prices, families.",
        "Ahead of the calls `often`, `top`, `isSimple`, `lean`, `test`, `counted`, `dual`, `into`, `verdict`, `tree`, "
            + "`node`, `keys`, `support`, `border`, `make` the interface says: ---- what hits.",
        "Ahead of the calls `rule`, `worth`, `best`, `ranked`, `sums` the interface says: ---- rules.",
        "Ahead of the calls `sheet`, `cell`, `read`, `packs`, `unpacks`, `freqs`, `image`, `back`, `count` the "
            + "interface says: ---- sheets.",
    };

    private DocumentTest() {
    }

    private static String folded(String text) {
        return text.replaceAll("(?m)^```.*$", " ").replaceAll("\\s+", " ").trim();
    }

    /** Promises by their numbers, without their heads; AHEAD is what it is, and the terms. */
    private static Map<Integer, StringBuilder> read(String document) {
        Map<Integer, StringBuilder> sections = new TreeMap<>();
        sections.put(AHEAD, new StringBuilder());
        for (String section : document.split("(?m)^## ")) {
            int end = section.indexOf('\n');
            String head = end < 0 ? section : section.substring(0, end);
            String text = folded(end < 0 ? "" : section.substring(end));
            if (head.startsWith("Promise ")) {
                int promise = Integer.parseInt(head.substring(8, head.indexOf(':')));
                sections.put(promise, new StringBuilder(text.substring(text.indexOf("`: ") + 3)));
            } else if (head.equals("What it is") || head.equals("Terms")) {
                sections.get(AHEAD).append(text).append(' ');
            }
        }
        return sections;
    }

    private static int promiseOf(Method test) {
        return test.getName().startsWith("promise") ? Integer.parseInt(test.getName().substring(7, 9)) : AHEAD;
    }

    /** The places in a section that are not said yet stay as they are in left; those of the words become blanks. */
    private static boolean blank(StringBuilder section, StringBuilder left, String words) {
        int at = section.indexOf(words);
        boolean isThere = at >= 0;
        while (at >= 0) {
            left.replace(at, at + words.length(), " ".repeat(words.length()));
            at = section.indexOf(words, at + words.length());
        }
        return isThere;
    }

    private static void blankAll(Map<Integer, StringBuilder> sections, Map<Integer, StringBuilder> left) {
        for (Class<?> tests : TESTS) {
            for (Method test : Tests.of(tests)) {
                Says says = test.getAnnotation(Says.class);
                int promise = promiseOf(test);
                for (String words : says == null ? new String[0] : says.value()) {
                    boolean isThere = blank(sections.get(promise), left.get(promise), words)
                        || blank(sections.get(AHEAD), left.get(AHEAD), words);
                    Due.holds(test.getName() + ": the document says " + words, isThere);
                }
            }
        }
        for (String words : OPEN) {
            Due.holds("the document says " + words, blank(sections.get(AHEAD), left.get(AHEAD), words));
        }
    }

    /** Each line of the document's face, as "int price(int,int)" or "NONE = -1". */
    private static Set<String> faceOf(String document) {
        Set<String> face = new TreeSet<>();
        Matcher method = Pattern.compile("(?m)^    public (int|long) (\\w+)\\((.*)\\);$").matcher(document);
        while (method.find()) {
            String types = method.group(3).replaceAll("(int|long) \\w+", "$1").replace(" ", "");
            face.add(method.group(1) + " " + method.group(2) + "(" + types + ")");
        }
        Matcher constants = Pattern.compile("(?m)^    public static final int (.*);$").matcher(document);
        while (constants.find()) {
            face.addAll(List.of(constants.group(1).split(", ")));
        }
        return face;
    }

    private static Set<String> faceOfClass() throws IllegalAccessException {
        Set<String> face = new TreeSet<>();
        for (Method method : EachIsHit.class.getDeclaredMethods()) {
            if (Modifier.isPublic(method.getModifiers())) {
                String types = Arrays.toString(method.getParameterTypes()).replaceAll("[\\[\\] ]", "");
                face.add(method.getReturnType() + " " + method.getName() + "(" + types + ")");
            }
        }
        for (Field field : EachIsHit.class.getFields()) {
            face.add(field.getName() + " = " + field.getInt(null));
        }
        return face;
    }

    public static void main(String[] args) throws IOException, IllegalAccessException {
        if (!Files.isReadable(DOCUMENT)) {
            System.out.println("DocumentTest: there is no " + DOCUMENT + " to look at");
            return;
        }
        String document = Files.readString(DOCUMENT);
        Map<Integer, StringBuilder> sections = read(document);
        Map<Integer, StringBuilder> left = read(document);
        Due.due("promises", sections.size() - 1, PROMISES);
        Due.due("lines of the face", faceOf(document).size(), FACE);
        Due.holds("the face is " + faceOf(document), faceOf(document).equals(faceOfClass()));
        blankAll(sections, left);
        for (Map.Entry<Integer, StringBuilder> section : left.entrySet()) {
            String rest = folded(section.getValue().toString());
            Due.holds("promise " + section.getKey() + " has no test that says: " + rest, rest.isEmpty());
        }
        Due.end("DocumentTest");
    }
}
