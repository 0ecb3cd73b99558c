import java.io.IOException;
import java.io.OutputStream;
import java.io.PrintStream;
import java.lang.reflect.Field;
import java.lang.reflect.Method;
import java.net.MalformedURLException;
import java.net.URL;
import java.net.URLClassLoader;
import java.nio.file.Files;
import java.nio.file.Path;
import java.util.ArrayList;
import java.util.List;
import java.util.TreeSet;
import javax.tools.ToolProvider;

/**
 * Whether the tests would find it out, if the document's words did not hold: the class is broken in the ways that
 * breaks.txt tells, and the tests that say these words must fail. It is run by hand from the project's folder, with the
 * folder of compiled classes as its argument: java -cp out Breaks out
 */
final class Breaks {
    private static final Path SOURCE = Path.of("src/main/java/EachIsHit.java");
    private static final Path LIST = Path.of("src/test/breaks.txt");
    private static final long MOST_MILLIS = 30_000;
    private static final PrintStream OUT = System.out;

    private static int notFoundOut = 0;

    /** One way to break the class; words have their promise's number ahead. */
    private static final class Break {
        final List<String> words = new ArrayList<>();
        final List<String[]> edits = new ArrayList<>();

        String name() {
            return words + " by " + edits.get(0)[1].trim() + " -> " + edits.get(0)[2].trim();
        }
    }

    private Breaks() {
    }

    private static List<Break> readBreaks() throws IOException {
        List<Break> breaks = new ArrayList<>();
        Break last = null;
        for (String line : Files.readAllLines(LIST)) {
            String rest = line.length() < 2 ? "" : line.substring(2);
            if (line.startsWith("= ") && (last == null || !last.edits.isEmpty())) {
                last = new Break();
                breaks.add(last);
            }
            if (line.startsWith("= ")) {
                last.words.add(rest);
            } else if (line.startsWith("@ ")) {
                last.edits.add(new String[] {rest, "", ""});
            } else if (line.startsWith("- ")) {
                last.edits.get(last.edits.size() - 1)[1] = rest;
            } else if (line.startsWith("+ ")) {
                last.edits.get(last.edits.size() - 1)[2] = rest;
            }
        }
        return breaks;
    }

    /** The class's text as it is then, or null, if a place isn't there. */
    private static String broken(String source, Break one) {
        String text = source;
        for (String[] edit : one.edits) {
            int at = text.indexOf(edit[0]);
            int from = at < 0 ? -1 : text.indexOf(edit[1], at);
            if (from < 0) {
                return null;
            }
            text = text.substring(0, from) + edit[2] + text.substring(from + edit[1].length());
        }
        return text;
    }

    private static boolean compile(Path folder, String text) throws IOException {
        Path file = folder.resolve("EachIsHit.java");
        Files.writeString(file, text);
        OutputStream errors = OutputStream.nullOutputStream();
        return ToolProvider.getSystemJavaCompiler().run(null, null, errors, "-nowarn", "-d", folder.toString(),
            file.toString()) == 0;
    }

    private static String numberOf(Method test) {
        return test.getName().startsWith("promise") ? test.getName().substring(7, 9) : "00";
    }

    /** Tests that say these words, in the order in which they stand. */
    private static List<String[]> testsOf(String words) {
        List<String[]> tests = new ArrayList<>();
        for (Class<?> all : DocumentTest.TESTS) {
            for (Method test : Tests.of(all)) {
                Says says = test.getAnnotation(Says.class);
                for (String said : says == null ? new String[0] : says.value()) {
                    if (words.equals(numberOf(test) + " " + said)) {
                        tests.add(new String[] {all.getName(), test.getName()});
                    }
                }
            }
        }
        return tests;
    }

    private static int wrongOf(ClassLoader loader) throws ReflectiveOperationException {
        Field wrong = loader.loadClass("Due").getDeclaredField("wrong");
        wrong.setAccessible(true);
        return wrong.getInt(null);
    }

    /** Whether a test fails, throws, or comes to no end. */
    private static boolean fails(ClassLoader loader, String[] name) throws InterruptedException {
        boolean[] isPassed = {false};
        Thread thread = new Thread(() -> {
            try {
                int ahead = wrongOf(loader);
                Method test = loader.loadClass(name[0]).getDeclaredMethod(name[1]);
                test.setAccessible(true);
                test.invoke(null);
                isPassed[0] = wrongOf(loader) == ahead;
            } catch (ReflectiveOperationException e) {
                isPassed[0] = false;
            }
        });
        thread.setDaemon(true);
        thread.start();
        thread.join(MOST_MILLIS);
        return !isPassed[0];
    }

    private static void tell(String what) {
        notFoundOut++;
        OUT.println(what);
    }

    private static URL url(Path folder) throws MalformedURLException {
        return folder.toUri().toURL();
    }

    private static void tryOut(Break one, String source, Path tests) throws IOException, InterruptedException {
        String text = broken(source, one);
        Path folder = Files.createTempDirectory("breaks");
        if (text == null || text.equals(source)) {
            tell("it can't be broken so: " + one.name());
        } else if (!compile(folder, text)) {
            tell("it doesn't compile then: " + one.name());
        } else {
            URL[] urls = {url(folder), url(tests)};
            try (URLClassLoader loader = new URLClassLoader(urls, ClassLoader.getPlatformClassLoader())) {
                for (String words : one.words) {
                    boolean isFoundOut = false;
                    for (String[] test : testsOf(words)) {
                        isFoundOut = isFoundOut || fails(loader, test);
                    }
                    if (!isFoundOut) {
                        tell("it isn't found out by tests of \"" + words + "\": " + one.name());
                    }
                }
            }
        }
    }

    private static void dueForAllWords(List<Break> breaks) {
        TreeSet<String> broken = new TreeSet<>();
        for (Break one : breaks) {
            broken.addAll(one.words);
        }
        for (Class<?> all : DocumentTest.TESTS) {
            for (Method test : Tests.of(all)) {
                Says says = test.getAnnotation(Says.class);
                for (String said : says == null ? new String[0] : says.value()) {
                    if (broken.add(numberOf(test) + " " + said)) {
                        tell("no break for \"" + numberOf(test) + " " + said + "\"");
                    }
                }
            }
        }
    }

    public static void main(String[] args) throws IOException, InterruptedException {
        if (args.length != 1) {
            OUT.println("Breaks wants the folder of compiled classes");
            System.exit(1);
        }
        String source = Files.readString(SOURCE);
        List<Break> breaks = readBreaks();
        System.setOut(new PrintStream(OutputStream.nullOutputStream()));
        for (Break one : breaks) {
            tryOut(one, source, Path.of(args[0]).toAbsolutePath());
        }
        dueForAllWords(breaks);
        OUT.println("Breaks: " + breaks.size() + " tried, " + notFoundOut + " to look at");
        System.exit(notFoundOut == 0 ? 0 : 1);
    }
}
