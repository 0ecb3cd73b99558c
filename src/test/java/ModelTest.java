import java.lang.reflect.Method;
import java.util.ArrayList;
import java.util.List;
import java.util.Random;

/** Runs of calls by chance (the same ones each time), answered by EachIsHit as by Model. */
public final class ModelTest {
    private static final int RUNS = 400;
    private static final int CALLS = 512;

    // Name, how often it is called among others, and what each argument is.
    private static final String[] CALLS_OF = {
        "price 8 point price", "priceOf 2 point", "tell 60 family set", "take 16 family set", "tally 4 family set",
        "at 6 family k", "size 4 family", "wipe 1 family", "copy 2 family family", "undo 16", "often 3 family point",
        "top 4 family", "isSimple 4 family", "lean 1 family", "test 8 family test set",
        "counted 8 family test bit n", "dual 8 family k", "into 2 family family", "verdict 8 family family bit",
        "tree 6 family what", "node 10 family i what", "keys 5 family k", "support 4 family set",
        "border 8 family t bit k", "make 3 family how n n", "rule 6 how rule rule c", "worth 12 rule set",
        "best 6 family rule bit", "ranked 6 family rule k", "sums 6 family rule", "sheet 5 sheet sort length",
        "cell 6 sheet i long", "read 8 sheet i", "packs 5 sheet family", "unpacks 3 sheet family length",
        "freqs 4 sheet family", "image 2", "back 1", "count 6 what",
    };

    private final Random chance;
    private final int mood;
    private final EachIsHit hit = new EachIsHit();
    private final Model model = new Model();
    private final List<String> calls = new ArrayList<>();

    private ModelTest(int seed) {
        chance = new Random(seed);
        mood = seed % 5;
    }

    private int upTo(int most) {
        return chance.nextInt(most + 1);
    }

    private int wrong() {
        int[] wrong = {-1, -2, -3, 4, 5, 6, 7, 9, 12, 13, 41, 100, 201, 4001, 4096, 65536,
            Integer.MIN_VALUE, Integer.MAX_VALUE};
        return wrong[chance.nextInt(wrong.length)];
    }

    /** Some moods have few sets, so that tallies grow; others many, so that families are full. */
    private int set() {
        switch (mood) {
            case 0:
                return upTo(4095);
            case 1:
                return upTo(15);
            case 2:
                return upTo(4095) & upTo(4095) & upTo(4095);
            case 3:
                return 3 << upTo(10) | (upTo(3) == 0 ? 1 << upTo(11) : 0);
            default:
                return (1 << upTo(11)) | (1 << upTo(11)) | (1 << upTo(11)) | (1 << upTo(11));
        }
    }

    private Object argument(String what) {
        if (what.equals("long")) {
            return upTo(3) == 0 ? (long) wrong() : chance.nextLong();
        }
        if (upTo(60) == 0) {
            return wrong();
        }
        switch (what) {
            case "family":
                return upTo(2) == 0 ? upTo(3) : mood < 2 ? 0 : 1;
            case "sheet":
                return upTo(3);
            case "point":
                return upTo(11);
            case "price":
                return upTo(2) == 0 ? upTo(99) : upTo(3);
            case "set":
                return set();
            case "k":
                return upTo(3) == 0 ? -1 : upTo(2) == 0 ? upTo(50) : upTo(8);
            case "i":
                return upTo(2) == 0 ? upTo(120) : upTo(14);
            case "test":
                return upTo(6);
            case "bit":
                return upTo(1);
            case "n":
                return upTo(12);
            case "what":
                return upTo(3);
            case "t":
                return upTo(3) == 0 ? upTo(4000) : upTo(6);
            case "how":
                return upTo(9);
            case "rule":
                return upTo(11);
            case "c":
                return upTo(22) - 11;
            case "sort":
                return upTo(1) == 0 ? 1 : upTo(2) - 1;
            default:
                return upTo(45);
        }
    }

    private static Class<?>[] types(String[] words) {
        Class<?>[] types = new Class<?>[words.length - 2];
        for (int i = 0; i < types.length; i++) {
            types[i] = words[i + 2].equals("long") ? long.class : int.class;
        }
        return types;
    }

    private String[] chosen() {
        int all = 0;
        for (String call : CALLS_OF) {
            all += Integer.parseInt(call.split(" ")[1]);
        }
        int at = chance.nextInt(all);
        for (String call : CALLS_OF) {
            at -= Integer.parseInt(call.split(" ")[1]);
            if (at < 0) {
                return call.split(" ");
            }
        }
        throw new IllegalStateException();
    }

    private boolean step() throws ReflectiveOperationException {
        String[] words = chosen();
        Object[] arguments = new Object[words.length - 2];
        StringBuilder call = new StringBuilder(words[0]).append('(');
        for (int i = 0; i < arguments.length; i++) {
            arguments[i] = argument(words[i + 2]);
            call.append(i == 0 ? "" : ", ").append(arguments[i]);
        }
        Method ours = EachIsHit.class.getMethod(words[0], types(words));
        Method theirs = Model.class.getMethod(words[0], types(words));
        long got = ((Number) ours.invoke(hit, arguments)).longValue();
        long want = ((Number) theirs.invoke(model, arguments)).longValue();
        calls.add(call.append(") ").append(got).toString());
        Due.due(calls.get(calls.size() - 1), got, want);
        return got == want;
    }

    public static void main(String[] args) throws ReflectiveOperationException {
        for (int seed = 0; seed < RUNS; seed++) {
            ModelTest run = new ModelTest(seed);
            for (int i = 0; i < CALLS; i++) {
                if (!run.step()) {
                    System.out.println("run " + seed + ": " + run.calls);
                    break;
                }
            }
        }
        Due.end("ModelTest");
    }
}
