import java.io.IOException;
import java.lang.reflect.Array;
import java.lang.reflect.Field;
import java.lang.reflect.Modifier;
import java.nio.file.Files;
import java.nio.file.Path;
import java.util.ArrayDeque;
import java.util.Collections;
import java.util.IdentityHashMap;
import java.util.Set;

/** An object has all its room from its constructor on: a run's calls share 600,000 objects, 7.3 million fields. */
public final class RoomTest {
    private static final int MOST_OBJECTS = 120;
    private static final int MOST_NUMBERS = 2500;

    private final Set<Object> objects = Collections.newSetFromMap(new IdentityHashMap<>());
    private int numbers = 0;

    private RoomTest(EachIsHit x) throws IllegalAccessException {
        ArrayDeque<Object> open = new ArrayDeque<>();
        open.add(x);
        objects.add(x);
        while (!open.isEmpty()) {
            Object one = open.remove();
            if (one.getClass().isArray()) {
                lookIntoArray(one, open);
            } else {
                lookIntoFields(one, open);
            }
        }
    }

    private void meet(Object one, ArrayDeque<Object> open) {
        if (one != null && objects.add(one)) {
            open.add(one);
        }
    }

    private void lookIntoArray(Object array, ArrayDeque<Object> open) {
        int length = Array.getLength(array);
        numbers += length;
        for (int i = 0; i < length && !array.getClass().getComponentType().isPrimitive(); i++) {
            meet(Array.get(array, i), open);
        }
    }

    private void lookIntoFields(Object one, ArrayDeque<Object> open) throws IllegalAccessException {
        for (Field field : one.getClass().getDeclaredFields()) {
            if (!Modifier.isStatic(field.getModifiers())) {
                numbers++;
                field.setAccessible(true);
                if (!field.getType().isPrimitive()) {
                    meet(field.get(one), open);
                }
            }
        }
    }

    /** What is made is made in a constructor: no line with "new" stands outside of one. */
    private static void newsAreInConstructors() throws IOException {
        String end = "";
        for (String line : Files.readAllLines(Path.of("src/main/java/EachIsHit.java"))) {
            if (line.matches(" +(public )?[A-Z]\\w*\\(.*\\) \\{")) {
                end = line.substring(0, line.length() - line.stripLeading().length()) + "}";
            } else if (line.equals(end)) {
                end = "";
            }
            Due.holds(line.trim(), !end.isEmpty() || !line.matches(".*\\bnew [A-Za-z]\\w*[(\\[].*"));
        }
    }

    private static void askAll(EachIsHit x) {
        x.tree(2, 0);
        x.node(2, 9, 3);
        x.dual(0, -1);
        x.keys(0, 0);
        x.border(1, 1, 0, 0);
        x.border(1, 1, 1, 0);
        for (int test = 0; test < 6; test++) {
            x.counted(1, test, 1, 5);
        }
        x.best(0, 7, 0);
        x.ranked(2, 7, 3);
        x.sums(2, 7);
        x.into(0, 1);
        x.lean(2);
        x.copy(2, 3);
        x.unpacks(0, 1, 15);
        x.freqs(1, 1);
        x.image();
        x.back();
    }

    public static void main(String[] args) throws ReflectiveOperationException, IOException {
        EachIsHit x = new EachIsHit();
        RoomTest first = new RoomTest(x);
        Due.holds(first.objects.size() + " objects", first.objects.size() <= MOST_OBJECTS);
        Due.holds(first.numbers + " fields and elements", first.numbers <= MOST_NUMBERS);
        Still.busy(x);
        askAll(x);
        RoomTest then = new RoomTest(x);
        Due.due("objects then", then.objects.size(), first.objects.size());
        Due.holds("the same objects then", then.objects.containsAll(first.objects));
        newsAreInConstructors();
        System.out.println("an object has " + first.objects.size() + " objects, " + first.numbers + " fields and elements");
        Due.end("RoomTest");
    }
}
