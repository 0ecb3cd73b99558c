import java.lang.reflect.Constructor;
import java.lang.reflect.Field;
import java.lang.reflect.Member;
import java.lang.reflect.Method;
import java.lang.reflect.Modifier;
import java.util.Arrays;
import java.util.Set;
import java.util.TreeSet;

/** The class shows the document's face and nothing else. */
public final class FaceTest {
    private static final String[] METHODS = {
        "price(int,int)", "priceOf(int)", "tell(int,int)", "take(int,int)", "tally(int,int)", "at(int,int)", "size(int)",
        "wipe(int)", "copy(int,int)", "undo()", "often(int,int)", "top(int)", "isSimple(int)", "lean(int)",
        "test(int,int,int)", "counted(int,int,int,int)", "dual(int,int)", "into(int,int)", "verdict(int,int,int)",
        "tree(int,int)", "node(int,int,int)", "keys(int,int)", "support(int,int)", "border(int,int,int,int)",
        "make(int,int,int,int)", "rule(int,int,int,int)", "worth(int,int)", "best(int,int,int)", "ranked(int,int,int)",
        "sums(int,int)", "sheet(int,int,int)", "cell(int,int,long)", "read(int,int)", "packs(int,int)",
        "unpacks(int,int,int)", "freqs(int,int)", "image()", "back()", "count(int)",
    };
    private static final String[] CONSTANTS = {"NONE", "BAD", "STATE", "FULL", "NOTHING", "PLACE", "KIND", "SIZE"};

    private static boolean isSeen(Member member) {
        return !Modifier.isPrivate(member.getModifiers()) && !member.isSynthetic();
    }

    private static void methods() {
        Set<String> seen = new TreeSet<>();
        Set<String> names = new TreeSet<>();
        for (Method method : EachIsHit.class.getDeclaredMethods()) {
            if (isSeen(method)) {
                String types = Arrays.toString(method.getParameterTypes()).replaceAll("[\\[\\] ]", "");
                seen.add(method.getName() + "(" + types + ")");
                names.add(method.getName());
                boolean isRead = method.getName().equals("read");
                Due.holds(method + " is public", method.getModifiers() == Modifier.PUBLIC);
                Due.holds(method + " answers", method.getReturnType() == (isRead ? long.class : int.class));
            }
        }
        Due.holds("methods are " + seen, seen.equals(new TreeSet<>(Arrays.asList(METHODS))));
        for (Method method : EachIsHit.class.getDeclaredMethods()) {
            Due.holds(method + " has a name of its own", isSeen(method) || !names.contains(method.getName()));
        }
    }

    private static void constants() {
        Set<String> seen = new TreeSet<>();
        for (Field field : EachIsHit.class.getDeclaredFields()) {
            if (isSeen(field)) {
                seen.add(field.getName());
                Due.holds(field + " is an int", field.getType() == int.class);
                Due.holds(field + " is public, static, final",
                    field.getModifiers() == (Modifier.PUBLIC | Modifier.STATIC | Modifier.FINAL));
            }
        }
        Due.holds("constants are " + seen, seen.equals(new TreeSet<>(Arrays.asList(CONSTANTS))));
        Due.due("NONE", EachIsHit.NONE, -1);
        Due.due("BAD", EachIsHit.BAD, -2);
        Due.due("STATE", EachIsHit.STATE, -3);
        Due.due("FULL", EachIsHit.FULL, -4);
        Due.due("NOTHING", EachIsHit.NOTHING, -11);
        Due.due("PLACE", EachIsHit.PLACE, -12);
        Due.due("KIND", EachIsHit.KIND, -13);
        Due.due("SIZE", EachIsHit.SIZE, -14);
    }

    public static void main(String[] args) {
        methods();
        constants();
        Constructor<?>[] constructors = EachIsHit.class.getDeclaredConstructors();
        Due.due("constructors", constructors.length, 1);
        Due.due("arguments of the constructor", constructors[0].getParameterCount(), 0);
        Due.holds("the constructor is public", Modifier.isPublic(constructors[0].getModifiers()));
        Due.holds("the class is public and final",
            EachIsHit.class.getModifiers() == (Modifier.PUBLIC | Modifier.FINAL));
        for (Class<?> inside : EachIsHit.class.getDeclaredClasses()) {
            Due.holds(inside + " is static", Modifier.isStatic(inside.getModifiers()));
            Due.holds(inside + " is not public",
                !Modifier.isPublic(inside.getModifiers()) && !Modifier.isProtected(inside.getModifiers()));
        }
        Due.holds("at most twelve classes inside", EachIsHit.class.getDeclaredClasses().length <= 12);
        Due.end("FaceTest");
    }
}
