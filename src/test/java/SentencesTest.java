import java.util.ArrayList;
import java.util.List;
import java.util.function.IntPredicate;

/** Sentences of the document's terms, held against what the class answers for all sets, as the words stand. */
public final class SentencesTest {
    private static final int NONE = -1, BAD = -2, STATE = -3, FULL = -4, NOTHING = -11, PLACE = -12, KIND = -13, SIZE = -14;
    private static final int SETS = 4096;
    // An object is good for 512 calls; a family takes up to 112 of them.
    private static final int MOST_ASKED = 400;

    /** Sets as they are told one behind the other; some are told more than once. */
    private static final int[][] FAMILIES = {
        {}, {0}, {4095}, {2048}, {3, 0, 40}, {3, 5}, {3, 5, 6}, {1, 3, 7, 15, 2063}, {32, 64}, {96, 33, 2112, 96},
        {7, 7, 56, 7, 448, 73, 73, 1}, {2080, 65, 1056, 3, 96, 65, 2049}, {1365, 2730, 585, 585, 1170, 2340},
        {24, 3, 5, 3, 24, 3}, {3, 5, 10}, {5, 6}, {1, 2, 4, 8, 16, 32, 64, 128, 256, 512, 1024, 2048},
        many(40, 4095), many(40, 63), many(25, 1170), many(30, 2925),
    };

    private interface Asked {
        int of(EachIsHit x, int v);
    }

    private static void due(String call, long got, long want) {
        Due.due(call, got, want);
    }

    /** As many sets of these points as can be, one behind the other as by chance. */
    private static int[] many(int most, int points) {
        int[] sets = new int[most];
        int v = 1;
        for (int i = 0; i < most; i++) {
            v = (v * 1103 + 12345) & 0xFFFFF;
            sets[i] = (v >> 7) & points;
        }
        return sets;
    }

    private static EachIsHit with(int[] told) {
        EachIsHit x = new EachIsHit();
        for (int set : told) {
            x.tell(0, set);
        }
        return x;
    }

    private static List<Integer> once(int[] told) {
        List<Integer> sets = new ArrayList<>();
        for (int set : told) {
            if (!sets.contains(set)) {
                sets.add(set);
            }
        }
        return sets;
    }

    private static boolean isPart(int part, int whole) {
        return (part | whole) == whole;
    }

    private static boolean hits(List<Integer> family, int set) {
        return family.stream().allMatch(s -> (s & set) != 0);
    }

    private static boolean isLeast(List<Integer> family, int set) {
        boolean canSpare = false;
        for (int p = 0; p < 12; p++) {
            canSpare |= (set & 1 << p) != 0 && hits(family, set & ~(1 << p));
        }
        return hits(family, set) && !canSpare;
    }

    private static List<Integer> all(IntPredicate does) {
        List<Integer> sets = new ArrayList<>();
        for (int set = 0; set < SETS; set++) {
            if (does.test(set)) {
                sets.add(set);
            }
        }
        return sets;
    }

    /** For each set the call answers 1, if the set is as told, else 0. */
    private static void dueOfAllSets(String name, int[] told, Asked asked, IntPredicate does) {
        EachIsHit x = with(told);
        for (int set = 0; set < SETS; set++) {
            if (set % MOST_ASKED == 0) {
                x = with(told);
            }
            due(name + " " + set + " by " + once(told), asked.of(x, set), does.test(set) ? 1 : 0);
        }
    }

    /** The call lists just these: k -1 tells how many. */
    private static void dueListed(String name, int[] told, Asked asked, List<Integer> sets) {
        EachIsHit x = with(told);
        due(name + " how many", asked.of(x, -1), sets.size());
        for (int k = 0; k < sets.size(); k++) {
            if (k % MOST_ASKED == 0) {
                x = with(told);
            }
            due(name + " at " + k + " of " + once(told), asked.of(x, k), sets.get(k));
        }
        due(name + " behind the last", asked.of(x, sets.size()), PLACE);
    }

    // ---- what is refused

    @Says("A call that is refused answers NONE (-1), BAD (-2), STATE (-3), FULL (-4), or by the host NOTHING (-11), "
        + "PLACE (-12), KIND (-13), SIZE (-14):")
    private static void termsRefusedCallsAnswerTheirNumbers() {
        EachIsHit x = new EachIsHit();
        x.sheet(1, 0, 2);
        due("NONE", x.undo(), -1);
        due("BAD", x.size(4), -2);
        due("STATE", x.back(), -3);
        due("FULL", x.make(0, 0, 12, 6), -4);
        due("NOTHING", x.read(0, 0), -11);
        due("PLACE", x.read(1, 2), -12);
        due("KIND", x.packs(1, 0), -13);
        due("SIZE", x.sheet(1, 0, -1), -14);
        int[] named = {
            EachIsHit.NONE, EachIsHit.BAD, EachIsHit.STATE, EachIsHit.FULL, EachIsHit.NOTHING, EachIsHit.PLACE,
            EachIsHit.KIND, EachIsHit.SIZE,
        };
        int[] numbers = {NONE, BAD, STATE, FULL, NOTHING, PLACE, KIND, SIZE};
        for (int i = 0; i < named.length; i++) {
            due("by its name", named[i], numbers[i]);
        }
    }

    // ---- sets

    @Says("A SET of POINTS is told by bits (0 .. 4095).")
    private static void termsSetIsToldByBits() {
        for (int set : new int[] {0, 1, 2048, 4095, 1365, 2730, 96, 3079}) {
            EachIsHit x = with(new int[] {set});
            int points = 0;
            for (int p = 0; p < 12; p++) {
                boolean has = (set & 1 << p) != 0;
                due("point " + p + " of " + set, x.often(0, p), has ? 1 : 0);
                points += has ? 1 : 0;
                int cheap = x.worth(1, set);
                x.price(p, 2);
                due("price of point " + p + " of " + set, x.worth(1, set), has ? cheap + 1 : cheap);
            }
            due("points of " + set, x.worth(0, set), points);
        }
    }

    // ---- tests

    @Says({
        "Whether a SET does it: 1, 0.",
        "TESTS of a SET, by a FAMILY: 0 it HITS it;",
        "A SET HITS a FAMILY, if it has a POINT of each SET of it",
    })
    private static void promise16Test0ItHitsIt() {
        for (int[] told : FAMILIES) {
            dueOfAllSets("hits", told, (x, set) -> x.test(0, 0, set), set -> hits(once(told), set));
        }
    }

    @Says({
        "Whether a SET does it: 1, 0.",
        "1 it is LEAST;",
        "It is LEAST, if it HITS it, and would not without any one of its POINTS.",
    })
    private static void promise16Test1ItIsLeast() {
        for (int[] told : FAMILIES) {
            dueOfAllSets("least", told, (x, set) -> x.test(0, 1, set), set -> isLeast(once(told), set));
        }
    }

    @Says({"Whether a SET does it: 1, 0.", "2 no SET of it is a part of it;"})
    private static void promise16Test2NoSetIsAPartOfIt() {
        for (int[] told : FAMILIES) {
            dueOfAllSets("has none", told, (x, set) -> x.test(0, 2, set),
                set -> once(told).stream().noneMatch(s -> isPart(s, set)));
        }
    }

    @Says({"Whether a SET does it: 1, 0.", "3 it is a part of a SET of it;"})
    private static void promise16Test3ItIsAPart() {
        for (int[] told : FAMILIES) {
            dueOfAllSets("is a part", told, (x, set) -> x.test(0, 3, set),
                set -> once(told).stream().anyMatch(s -> isPart(set, s)));
        }
    }

    @Says({"Whether a SET does it: 1, 0.", "4 it has with each SET of it an odd number of POINTS in common;"})
    private static void promise16Test4AnOddNumberInCommon() {
        for (int[] told : FAMILIES) {
            dueOfAllSets("odd", told, (x, set) -> x.test(0, 4, set),
                set -> once(told).stream().allMatch(s -> Integer.bitCount(s & set) % 2 == 1));
        }
    }

    @Says({"Whether a SET does it: 1, 0.", "5 it is one of it."})
    private static void promise16Test5ItIsOneOfIt() {
        for (int[] told : FAMILIES) {
            dueOfAllSets("is one", told, (x, set) -> x.test(0, 5, set), set -> once(told).contains(set));
        }
    }

    @Says("How many SETS of n (0 .. 12) POINTS do a TEST (not 0), don't (1).")
    private static void promise17AsManyAsTheTestIsDoneBy() {
        for (int[] told : FAMILIES) {
            for (int test = 0; test < 6; test++) {
                int[] does = new int[13];
                int[] doesnt = new int[13];
                EachIsHit x = with(told);
                for (int set = 0; set < SETS; set++) {
                    if (set % MOST_ASKED == 0) {
                        x = with(told);
                    }
                    int[] row = x.test(0, test, set) == 1 ? does : doesnt;
                    row[Integer.bitCount(set)]++;
                }
                x = with(told);
                for (int n = 0; n <= 12; n++) {
                    due("test " + test + " of " + n + " points", x.counted(0, test, 0, n), does[n]);
                    due("not test " + test + " of " + n + " points", x.counted(0, test, 1, n), doesnt[n]);
                }
            }
        }
    }

    // ---- dual, verdict

    @Says({"SET k of DUAL;", "k -1: how many there are.", "DUAL of a FAMILY: all LEAST SETS, in order as numbers."})
    private static void promise18AllLeastSetsInOrder() {
        for (int[] told : FAMILIES) {
            dueListed("dual", told, (x, k) -> x.dual(0, k), all(set -> isLeast(once(told), set)));
        }
    }

    /** Verdict and witness, as the words stand. */
    private static int[] judged(List<Integer> f, List<Integer> g) {
        for (int set : g) {
            if (!hits(f, set)) {
                return new int[] {1, set};
            }
        }
        for (int set : g) {
            if (!isLeast(f, set)) {
                return new int[] {2, set};
            }
        }
        for (int set : all(s -> isLeast(f, s))) {
            if (!g.contains(set)) {
                return new int[] {3, set};
            }
        }
        return new int[] {0, NONE};
    }

    @Says({
        "VERDICT on FAMILY g, by f: 1, if a SET of g doesn't HIT f;",
        "else 2, if one isn't LEAST;",
        "else 3, if one of DUAL of f isn't of g;",
        "else 0.",
        "WITNESS: for 1, 2 the first such SET of g in order,",
        "for 3 the first such one of DUAL.",
    })
    private static void promise20VerdictsOfOneByAnother() {
        int[] seen = new int[4];
        int[][] more = {{1, 2}, {2, 1, 3}, {3, 1}, {1, 6}, {6, 1}, {6}, {1, 7, 6}, {2048, 4095}, {96}, {97, 96}};
        List<int[]> families = new ArrayList<>(List.of(FAMILIES));
        families.addAll(List.of(more));
        for (int[] f : families) {
            for (int[] g : families) {
                EachIsHit x = with(f);
                for (int set : g) {
                    x.tell(1, set);
                }
                int[] want = judged(once(f), once(g));
                due("verdict on " + once(g) + " by " + once(f), x.verdict(0, 1, 0), want[0]);
                due("witness on " + once(g) + " by " + once(f), x.verdict(0, 1, 1), want[1]);
                seen[want[0]]++;
            }
        }
        for (int verdict = 0; verdict < 4; verdict++) {
            Due.holds("verdict " + verdict + " is among them", seen[verdict] > 0);
        }
    }

    // ---- the tree

    private static List<Integer> withoutWholes(List<Integer> sets) {
        List<Integer> kept = new ArrayList<>();
        for (int set : sets) {
            if (sets.stream().noneMatch(s -> s != set && isPart(s, set)) && !kept.contains(set)) {
                kept.add(set);
            }
        }
        return kept;
    }

    private static int inMost(List<Integer> sets) {
        int top = NONE;
        long most = 0;
        for (int p = 0; p < 12; p++) {
            int point = 1 << p;
            long often = sets.stream().filter(s -> (s & point) != 0).count();
            if (often > most) {
                most = often;
                top = p;
            }
        }
        return top;
    }

    /** Nodes are rows of point, sets, depth, points had. */
    private static void comeTo(List<int[]> nodes, List<Integer> sets, int depth, int had) {
        boolean isLeaf = sets.isEmpty() || sets.contains(0);
        int top = isLeaf ? NONE : inMost(sets);
        nodes.add(new int[] {top, sets.size(), depth, had});
        if (isLeaf) {
            return;
        }
        int point = 1 << top;
        List<Integer> without = new ArrayList<>();
        List<Integer> taken = new ArrayList<>();
        for (int set : sets) {
            if ((set & point) == 0) {
                without.add(set);
            }
            taken.add(set & ~point);
        }
        comeTo(nodes, without, depth + 1, had | point);
        comeTo(nodes, withoutWholes(taken), depth + 1, had);
    }

    private static List<int[]> nodesOf(int[] told) {
        List<int[]> nodes = new ArrayList<>();
        comeTo(nodes, withoutWholes(once(told)), 0, 0);
        return nodes;
    }

    private static void dueOfNodes(int what) {
        for (int[] told : FAMILIES) {
            List<int[]> nodes = nodesOf(told);
            EachIsHit x = with(told);
            for (int i = 0; i < nodes.size(); i++) {
                if (i % MOST_ASKED == 0) {
                    x = with(told);
                }
                due("node " + i + " of " + once(told), x.node(0, i, what), nodes.get(i)[what]);
            }
            due("behind the last node", x.node(0, nodes.size(), what), PLACE);
        }
    }

    @Says({"THE TREE: what 0 how many NODES,", "1 the greatest depth,", "2 how many LEAVES have no SETS."})
    private static void promise21OfAllNodes() {
        for (int[] told : FAMILIES) {
            EachIsHit x = with(told);
            List<int[]> nodes = nodesOf(told);
            due("nodes", x.tree(0, 0), nodes.size());
            due("depth", x.tree(0, 1), nodes.stream().mapToInt(node -> node[2]).max().getAsInt());
            due("leaves without sets", x.tree(0, 2), nodes.stream().filter(node -> node[1] == 0).count());
        }
    }

    @Says({
        "Of its NODE i: what 0 the POINT at which it BRANCHES (NONE: LEAF),",
        "else it BRANCHES at the POINT that is in most of its SETS, of like ones the least:",
    })
    private static void promise22PointAtWhichItBranches() {
        dueOfNodes(0);
    }

    @Says({
        "1 how many SETS it has,",
        "THE TREE of a FAMILY: NODES, numbered from 0 as they are come to, each with some SETS, a depth, a SET of POINTS "
            + "that are had.",
    })
    private static void promise22HowManySetsItHas() {
        dueOfNodes(1);
    }

    @Says({"2 its depth,", "Depth is 1 more in both."})
    private static void promise22ItsDepth() {
        dueOfNodes(2);
    }

    @Says({"3 which POINTS are had.", "with what is had as it is, and all behind that."})
    private static void promise22WhichPointsAreHad() {
        dueOfNodes(3);
    }

    // ---- keys, borders

    @Says({
        "KEY k, in order as numbers;",
        "KEYS of a FAMILY: the LEAST SETS of the FAMILY of all SETS of POINTS that are in just one of two SETS of it, for "
            + "each two",
    })
    private static void promise23LeastSetsOfWhatIsInJustOneOfTwo() {
        for (int[] told : FAMILIES) {
            List<Integer> apart = new ArrayList<>();
            for (int one : once(told)) {
                for (int two : once(told)) {
                    if (one != two && !apart.contains(one ^ two)) {
                        apart.add(one ^ two);
                    }
                }
            }
            dueListed("keys", told, (x, k) -> x.keys(0, k), all(set -> isLeast(apart, set)));
        }
    }

    /** Sets as often as they were told, 99 times at most. */
    private static int support(int[] told, int set) {
        int sum = 0;
        for (int one : told) {
            sum += isPart(set, one) ? 1 : 0;
        }
        return sum;
    }

    @Says({"SUPPORT.", "SUPPORT of a SET: TALLIES of all SETS of a FAMILY of which it is a part, together."})
    private static void promise24TalliesOfThoseOfWhichItIsAPart() {
        for (int[] told : FAMILIES) {
            EachIsHit x = with(told);
            for (int set = 0; set < SETS; set++) {
                if (set % MOST_ASKED == 0) {
                    x = with(told);
                }
                due("support of " + set, x.support(0, set), support(told, set));
            }
        }
    }

    /** Those that are told, and have no other one of them as a part (or are none's part, if isUp). */
    private static List<Integer> outermost(List<Integer> sets, boolean isUp) {
        List<Integer> found = new ArrayList<>();
        for (int set : sets) {
            if (sets.stream().noneMatch(s -> s != set && (isUp ? isPart(set, s) : isPart(s, set)))) {
                found.add(set);
            }
        }
        return found;
    }

    @Says({
        "SET k of UP (side 0),",
        "UP: COMMON ones that are no part of another COMMON one;",
        "both in order as numbers.",
        "It is COMMON at t, if that is t or more.",
    })
    private static void promise25CommonOnesThatAreNoPartOfAnother() {
        for (int[] told : FAMILIES) {
            for (int t = 0; t <= 4; t++) {
                int at = t;
                List<Integer> common = all(set -> support(told, set) >= at);
                dueListed("up at " + t, told, (x, k) -> x.border(0, at, 0, k), outermost(common, true));
            }
        }
    }

    @Says({
        "DOWN (1)",
        "DOWN: those that aren't COMMON, and have no other such one as a part;",
        "both in order as numbers.",
        "It is COMMON at t, if that is t or more.",
    })
    private static void promise25ThoseThatArentCommonWithoutSuchAPart() {
        for (int[] told : FAMILIES) {
            for (int t = 0; t <= 4; t++) {
                int at = t;
                List<Integer> rare = all(set -> support(told, set) < at);
                dueListed("down at " + t, told, (x, k) -> x.border(0, at, 1, k), outermost(rare, false));
            }
        }
    }

    public static void main(String[] args) throws ReflectiveOperationException {
        Tests.run(SentencesTest.class);
    }
}
