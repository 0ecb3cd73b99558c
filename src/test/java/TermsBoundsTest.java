import java.lang.reflect.Method;
import java.util.TreeSet;

/** What the document's terms say of all calls. */
public final class TermsBoundsTest {
    private static final int NONE = -1, BAD = -2, FULL = -4, PLACE = -12;

    private static void due(String call, long got, long want) {
        Due.due(call, got, want);
    }

    @Says("What is asked changes nothing, but where told.")
    private static void termsAskedPricesAndFamilies() {
        Still.asked("priceOf", x -> x.priceOf(11));
        Still.asked("tally", x -> x.tally(0, 3));
        Still.asked("at", x -> x.at(2, 39));
        Still.asked("size", x -> x.size(2));
        Still.asked("often", x -> x.often(2, 0));
        Still.asked("top", x -> x.top(1));
        Still.asked("isSimple", x -> x.isSimple(2));
        Still.asked("count", x -> x.count(1));
    }

    @Says("What is asked changes nothing, but where told.")
    private static void termsAskedWhatHits() {
        for (int family = 0; family < 4; family++) {
            int f = family;
            for (int test = 0; test < 6; test++) {
                int t = test;
                Still.asked("test", x -> x.test(f, t, 10));
                Still.asked("counted", x -> x.counted(f, t, 0, 6));
                Still.asked("counted not", x -> x.counted(f, t, 1, 6));
            }
            for (int what = 0; what < 3; what++) {
                int w = what;
                Still.asked("tree", x -> x.tree(f, w));
                Still.asked("node", x -> x.node(f, w, 3));
            }
            for (int k = -2; k < 2; k++) {
                int at = k;
                Still.asked("dual", x -> x.dual(f, at));
                Still.asked("keys", x -> x.keys(f, at));
                Still.asked("border up", x -> x.border(f, 2, 0, at));
                Still.asked("border down", x -> x.border(f, 2, 1, at));
            }
            Still.asked("verdict", x -> x.verdict(f, 1, 0));
            Still.asked("witness", x -> x.verdict(0, f, 1));
            Still.asked("support", x -> x.support(f, 1));
        }
    }

    @Says("What is asked changes nothing, but where told.")
    private static void termsAskedRulesAndSheets() {
        for (int rule = 0; rule < 8; rule++) {
            int r = rule;
            Still.asked("worth", x -> x.worth(r, 4095));
            Still.asked("best", x -> x.best(0, r, 0));
            Still.asked("what it tells", x -> x.best(2, r, 1));
            Still.asked("ranked", x -> x.ranked(2, r, 39));
            Still.asked("sums", x -> x.sums(2, r));
        }
        for (int sheet = 0; sheet < 4; sheet++) {
            int s = sheet;
            Still.asked("read", x -> x.read(s, 0));
        }
    }

    /** How many acts of nine are remembered behind a call that isn't refused. */
    private static void dueActs(String name, Still.Call call, int acts) {
        EachIsHit x = Still.busyOne();
        due("acts ahead of " + name, x.count(1), 9);
        Due.holds(name + " isn't refused", call.on(x) >= 0);
        due("acts behind " + name, x.count(1), acts);
    }

    @Says({
        "by price() that a PRICE became another one;",
        "by tell() a SET that was TOLD, if that changed anything;",
        "by take() one that was TAKEN.",
    })
    private static void termsActsThatAreRemembered() {
        dueActs("price", x -> x.price(0, 3), 10);
        dueActs("price as it is", x -> x.price(0, 98), 9);
        dueActs("tell", x -> x.tell(0, 3), 10);
        dueActs("tell a new one", x -> x.tell(0, 5), 10);
        dueActs("take", x -> x.take(0, 3), 10);
        dueActs("take the last", x -> x.take(0, 6), 10);
        dueActs("undo", x -> x.undo(), 8);
        EachIsHit x = new EachIsHit();
        for (int t = 0; t < 99; t++) {
            x.tell(0, 3);
        }
        x.wipe(1);
        due("tell at 99", x.tell(0, 3), 99);
        due("acts behind tell at 99", x.count(1), 0);
    }

    @Says("wipe(), copy(), lean(), into(), make(), unpacks(), back() forget them all,")
    private static void termsActsAreForgottenBySeven() {
        dueActs("wipe", x -> x.wipe(0), 0);
        dueActs("copy", x -> x.copy(0, 1), 0);
        dueActs("lean", x -> x.lean(0), 0);
        dueActs("into", x -> x.into(0, 1), 0);
        dueActs("make", x -> x.make(0, 1, 2, 0), 0);
        dueActs("unpacks", x -> x.unpacks(0, 0, 1), 0);
        dueActs("back", x -> x.back(), 0);
    }

    @Says("wipe(), copy(), lean(), into(), make(), unpacks(), back() forget them all,")
    private static void termsActsAreKeptByOthers() {
        dueActs("rule", x -> x.rule(6, 0, 0, 0), 9);
        dueActs("sheet", x -> x.sheet(0, 0, 4), 9);
        dueActs("cell", x -> x.cell(0, 0, 4), 9);
        dueActs("packs", x -> x.packs(0, 0), 9);
        dueActs("freqs", x -> x.freqs(1, 0), 9);
        dueActs("image", x -> x.image(), 9);
    }

    @Says({"where they are not refused", "it changes nothing, but where told."})
    private static void termsRefusedOnesOfSevenForgetNothing() {
        Still.is("wipe", x -> x.wipe(4), BAD);
        Still.is("copy", x -> x.copy(0, 4), BAD);
        Still.is("lean", x -> x.lean(4), BAD);
        Still.is("into", x -> x.into(0, 4), BAD);
        Still.afterMore(x -> {
            x.make(0, 1, 6, 0);
            x.price(4, 4);
        }, "into, full", x -> x.into(0, 1), FULL);
        Still.is("make", x -> x.make(0, 5, 2, 0), BAD);
        Still.is("make, full", x -> x.make(0, 0, 10, 2), FULL);
        Still.is("unpacks", x -> x.unpacks(0, 0, 201), BAD);
    }

    @Says("A FAMILY that BECOMES what is told holds just that (all that it held is gone).")
    private static void termsBecomesHoldsJustThat() {
        EachIsHit x = Still.busyOne();
        due("copy", x.copy(3, 2), 2);
        due("size", x.size(2), 2);
        due("gone", x.tally(2, 3), 0);
        due("place 2", x.at(2, 2), PLACE);
        due("support of all", x.support(2, 0), 2);
        due("often", x.often(2, 0), 0);
    }

    @Says("each once,")
    private static void termsFamiliesHoldEachSetOnce() {
        EachIsHit x = new EachIsHit();
        for (int i = 0; i < 80; i++) {
            x.tell(0, i % 40);
        }
        due("size", x.size(0), 40);
        due("tally", x.tally(0, 39), 2);
        due("all", x.support(0, 0), 80);
    }

    @Says("An object is used for at most 512 calls after it has been made;")
    private static void termsGoodFor512Calls() {
        EachIsHit x = new EachIsHit();
        for (int i = 0; i < 127; i++) {
            due("tell", x.tell(0, 9), 1);
            due("price", x.price(0, i % 2), (i + 1) % 2);
            due("take", x.take(0, 9), 0);
            due("tally", x.tally(0, 9), 0);
        }
        due("acts", x.count(1), 20);
        due("undo", x.undo(), 19);
        due("tally", x.tally(0, 9), 1);
        due("undo at the 512th call", x.undo(), 18);
    }

    @Says({
        "1: their PRICES (as they are when it is asked), together.",
        "7 how many SETS of FAMILY c (as it is when it is asked) it has a POINT of;",
    })
    private static void termsRulesThatAreAskedOfAChangedObject() {
        // What a rule told once must not stick.
        EachIsHit x = new EachIsHit();
        x.rule(7, 0, 0, 0);
        x.rule(0, 1, 4, 0);
        due("worth", x.worth(5, 1), 1);
        due("worth again", x.worth(5, 1), 1);
        x.tell(0, 1);
        due("a set more", x.worth(5, 1), 2);
        x.price(0, 7);
        due("a price", x.worth(5, 1), 8);
        x.image();
        x.take(0, 1);
        due("a set less", x.worth(5, 1), 7);
        x.back();
        due("back", x.worth(5, 1), 8);
        x.rule(2, 3, 0, 1);
        x.back();
        x.rule(2, 3, 0, 2);
        due("another rule in its place", x.worth(6, 1), 2);
        due("none is remembered", x.undo(), NONE);
    }

    private static void termsEachPromiseHasATest() {
        Class<?>[] tests = {
            FamiliesBoundsTest.class, HitsBoundsTest.class, RulesBoundsTest.class, SheetsBoundsTest.class,
        };
        TreeSet<Integer> promises = new TreeSet<>();
        for (Class<?> test : tests) {
            for (Method method : Tests.of(test)) {
                promises.add(Integer.parseInt(method.getName().substring(7, 9)));
            }
        }
        due("promises with tests", promises.size(), 40);
        due("the first", promises.first(), 1);
        due("the last", promises.last(), 40);
    }

    public static void main(String[] args) throws ReflectiveOperationException {
        Tests.run(TermsBoundsTest.class);
    }
}
