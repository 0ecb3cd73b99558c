import java.util.ArrayDeque;
import java.util.ArrayList;
import java.util.LinkedHashMap;
import java.util.List;
import java.util.TreeSet;
import java.util.function.IntPredicate;
import java.util.function.IntUnaryOperator;

/** The document once more, word by word and without regard to speed, so that EachIsHit can be held against it. */
public final class Model {
    private static final int NONE = -1, BAD = -2, STATE = -3, FULL = -4, NOTHING = -11, PLACE = -12, KIND = -13, SIZE = -14;

    private int[] prices = new int[12];
    private List<LinkedHashMap<Integer, Integer>> families = new ArrayList<>();
    private List<IntUnaryOperator> rules = new ArrayList<>();
    private final ArrayDeque<Runnable> acts = new ArrayDeque<>();
    private final Object[] sheets = new Object[4];
    private int[] imagePrices = null;
    private List<LinkedHashMap<Integer, Integer>> imageFamilies = null;
    private int imageRules = 0;

    public Model() {
        java.util.Arrays.fill(prices, 1);
        for (int f = 0; f < 4; f++) {
            families.add(new LinkedHashMap<>());
        }
        rules.add(s -> Integer.bitCount(s));
        rules.add(s -> {
            int sum = 0;
            for (int p : points(s)) {
                sum += prices[p];
            }
            return sum;
        });
        rules.add(s -> {
            int most = 0;
            for (int p : points(s)) {
                most = Math.max(most, prices[p]);
            }
            return most;
        });
        rules.add(s -> s);
    }

    private static boolean in(long v, long low, long high) {
        return v >= low && v <= high;
    }

    private static boolean fam(int f) {
        return in(f, 0, 3);
    }

    private static boolean set(int s) {
        return in(s, 0, 4095);
    }

    private boolean isRule(int r) {
        return in(r, 0, rules.size() - 1);
    }

    private static List<Integer> points(int set) {
        List<Integer> points = new ArrayList<>();
        for (int p = 0; p < 12; p++) {
            if ((set & (1 << p)) != 0) {
                points.add(p);
            }
        }
        return points;
    }

    private static boolean part(int a, int b) {
        return points(b).containsAll(points(a));
    }

    private List<Integer> sets(int f) {
        return new ArrayList<>(families.get(f).keySet());
    }

    private void remember(Runnable undoing) {
        acts.addLast(undoing);
        if (acts.size() > 20) {
            acts.removeFirst();
        }
    }

    private static int told(LinkedHashMap<Integer, Integer> family, int set) {
        if (family.containsKey(set)) {
            family.put(set, Math.min(99, family.get(set) + 1));
        } else if (family.size() == 40) {
            return FULL;
        } else {
            family.put(set, 1);
        }
        return family.get(set);
    }

    private static int taken(LinkedHashMap<Integer, Integer> family, int set) {
        int left = family.get(set) - 1;
        if (left == 0) {
            family.remove(set);
        } else {
            family.put(set, left);
        }
        return left;
    }

    public int price(int point, int v) {
        if (!in(point, 0, 11) || !in(v, 0, 99)) {
            return BAD;
        }
        int was = prices[point];
        if (was != v) {
            prices[point] = v;
            remember(() -> prices[point] = was);
        }
        return was;
    }

    public int priceOf(int point) {
        return in(point, 0, 11) ? prices[point] : BAD;
    }

    public int tell(int f, int set) {
        if (!fam(f) || !set(set)) {
            return BAD;
        }
        int was = tally(f, set);
        int is = told(families.get(f), set);
        if (is != FULL && is != was) {
            remember(() -> taken(families.get(f), set));
        }
        return is;
    }

    public int take(int f, int set) {
        if (!fam(f) || !set(set)) {
            return BAD;
        }
        if (!families.get(f).containsKey(set)) {
            return NONE;
        }
        remember(() -> told(families.get(f), set));
        return taken(families.get(f), set);
    }

    public int tally(int f, int set) {
        return fam(f) && set(set) ? families.get(f).getOrDefault(set, 0) : BAD;
    }

    public int at(int f, int k) {
        if (!fam(f)) {
            return BAD;
        }
        return in(k, 0, size(f) - 1) ? sets(f).get(k) : PLACE;
    }

    public int size(int f) {
        return fam(f) ? families.get(f).size() : BAD;
    }

    public int wipe(int f) {
        if (!fam(f)) {
            return BAD;
        }
        int was = size(f);
        families.get(f).clear();
        acts.clear();
        return was;
    }

    public int copy(int f, int g) {
        if (!fam(f) || !fam(g)) {
            return BAD;
        }
        families.set(g, new LinkedHashMap<>(families.get(f)));
        acts.clear();
        return size(g);
    }

    public int undo() {
        if (acts.isEmpty()) {
            return NONE;
        }
        acts.removeLast().run();
        return acts.size();
    }

    private static int often(List<Integer> sets, int point) {
        int n = 0;
        for (int s : sets) {
            if (points(s).contains(point)) {
                n++;
            }
        }
        return n;
    }

    public int often(int f, int point) {
        return fam(f) && in(point, 0, 11) ? often(sets(f), point) : BAD;
    }

    private static int top(List<Integer> sets) {
        int best = NONE;
        for (int p = 11; p >= 0; p--) {
            if (often(sets, p) > 0 && (best == NONE || often(sets, p) >= often(sets, best))) {
                best = p;
            }
        }
        return best;
    }

    public int top(int f) {
        return fam(f) ? top(sets(f)) : BAD;
    }

    private static List<Integer> minimal(List<Integer> sets) {
        List<Integer> kept = new ArrayList<>();
        for (int s : sets) {
            boolean goes = kept.contains(s);
            for (int o : sets) {
                goes |= o != s && part(o, s);
            }
            if (!goes) {
                kept.add(s);
            }
        }
        return kept;
    }

    public int isSimple(int f) {
        if (!fam(f)) {
            return BAD;
        }
        return minimal(sets(f)).size() == size(f) ? 1 : 0;
    }

    public int lean(int f) {
        if (!fam(f)) {
            return BAD;
        }
        int was = size(f);
        families.get(f).keySet().retainAll(minimal(sets(f)));
        acts.clear();
        return was - size(f);
    }

    private static boolean hits(List<Integer> sets, int set) {
        for (int s : sets) {
            if ((s & set) == 0) {
                return false;
            }
        }
        return true;
    }

    private static boolean isLeast(List<Integer> sets, int set) {
        if (!hits(sets, set)) {
            return false;
        }
        for (int p = 0; p < 12; p++) {
            if ((set & (1 << p)) != 0 && hits(sets, set - (1 << p))) {
                return false;
            }
        }
        return true;
    }

    private static boolean does(List<Integer> sets, int test, int set) {
        if (test == 0) {
            return hits(sets, set);
        }
        if (test == 1) {
            return isLeast(sets, set);
        }
        for (int s : sets) {
            if (test == 2 && (s & set) == s) {
                return false;
            }
            if (test == 3 && (s & set) == set) {
                return true;
            }
            if (test == 4 && Integer.bitCount(s & set) % 2 == 0) {
                return false;
            }
        }
        return test == 5 ? sets.contains(set) : test != 3;
    }

    public int test(int f, int test, int set) {
        if (!fam(f) || !in(test, 0, 5) || !set(set)) {
            return BAD;
        }
        return does(sets(f), test, set) ? 1 : 0;
    }

    private static List<Integer> all(IntPredicate does) {
        List<Integer> found = new ArrayList<>();
        for (int s = 0; s < 4096; s++) {
            if (does.test(s)) {
                found.add(s);
            }
        }
        return found;
    }

    public int counted(int f, int test, int not, int n) {
        if (!fam(f) || !in(test, 0, 5) || !in(not, 0, 1) || !in(n, 0, 12)) {
            return BAD;
        }
        List<Integer> sets = sets(f);
        return all(s -> Integer.bitCount(s) == n && does(sets, test, s) == (not == 0)).size();
    }

    private static List<Integer> dual(List<Integer> sets) {
        return all(s -> isLeast(sets, s));
    }

    private static int listed(List<Integer> list, int k) {
        if (k == -1) {
            return list.size();
        }
        return in(k, 0, list.size() - 1) ? list.get(k) : PLACE;
    }

    public int dual(int f, int k) {
        return fam(f) ? listed(dual(sets(f)), k) : BAD;
    }

    public int into(int f, int g) {
        if (!fam(f) || !fam(g)) {
            return BAD;
        }
        List<Integer> dual = dual(sets(f));
        if (dual.size() > 40) {
            return FULL;
        }
        families.get(g).clear();
        for (int s : dual) {
            told(families.get(g), s);
        }
        acts.clear();
        return dual.size();
    }

    public int verdict(int f, int g, int what) {
        if (!fam(f) || !fam(g) || !in(what, 0, 1)) {
            return BAD;
        }
        for (int s : sets(g)) {
            if (!hits(sets(f), s)) {
                return what == 0 ? 1 : s;
            }
        }
        for (int s : sets(g)) {
            if (!isLeast(sets(f), s)) {
                return what == 0 ? 2 : s;
            }
        }
        for (int s : dual(sets(f))) {
            if (!sets(g).contains(s)) {
                return what == 0 ? 3 : s;
            }
        }
        return what == 0 ? 0 : NONE;
    }

    /** Nodes as rows of point, sets, depth, had. */
    private static void grow(List<int[]> nodes, List<Integer> sets, int depth, int had) {
        boolean isLeaf = sets.isEmpty() || sets.contains(0);
        int point = isLeaf ? NONE : top(sets);
        nodes.add(new int[] {point, sets.size(), depth, had});
        if (isLeaf) {
            return;
        }
        List<Integer> without = new ArrayList<>();
        List<Integer> reduced = new ArrayList<>();
        for (int s : sets) {
            if ((s & (1 << point)) == 0) {
                without.add(s);
            }
            reduced.add(s & ~(1 << point));
        }
        grow(nodes, without, depth + 1, had | (1 << point));
        grow(nodes, minimal(reduced), depth + 1, had);
    }

    private List<int[]> nodes(int f) {
        List<int[]> nodes = new ArrayList<>();
        grow(nodes, minimal(sets(f)), 0, 0);
        return nodes;
    }

    public int tree(int f, int what) {
        if (!fam(f) || !in(what, 0, 2)) {
            return BAD;
        }
        int deepest = 0;
        int bare = 0;
        List<int[]> nodes = nodes(f);
        for (int[] node : nodes) {
            deepest = Math.max(deepest, node[2]);
            bare += node[1] == 0 ? 1 : 0;
        }
        return what == 0 ? nodes.size() : what == 1 ? deepest : bare;
    }

    public int node(int f, int i, int what) {
        if (!fam(f) || !in(what, 0, 3)) {
            return BAD;
        }
        List<int[]> nodes = nodes(f);
        return in(i, 0, nodes.size() - 1) ? nodes.get(i)[what] : PLACE;
    }

    public int keys(int f, int k) {
        if (!fam(f)) {
            return BAD;
        }
        TreeSet<Integer> apart = new TreeSet<>();
        for (int a : sets(f)) {
            for (int b : sets(f)) {
                if (a != b) {
                    apart.add(a ^ b);
                }
            }
        }
        return listed(dual(new ArrayList<>(apart)), k);
    }

    public int support(int f, int set) {
        if (!fam(f) || !set(set)) {
            return BAD;
        }
        int sum = 0;
        for (int s : sets(f)) {
            sum += (s & set) == set ? families.get(f).get(s) : 0;
        }
        return sum;
    }

    public int border(int f, int t, int side, int k) {
        if (!fam(f) || !in(t, 0, 4000) || !in(side, 0, 1)) {
            return BAD;
        }
        boolean[] common = new boolean[4096];
        for (int s = 0; s < 4096; s++) {
            common[s] = support(f, s) >= t;
        }
        return listed(all(s -> {
            if (common[s] != (side == 0)) {
                return false;
            }
            // Every other one is looked at only by way of its neighbours: what is common is so in all its parts.
            for (int p = 0; p < 12; p++) {
                int other = s ^ (1 << p);
                boolean isBeyond = side == 0 ? other > s : other < s;
                if (isBeyond && common[other] == (side == 0)) {
                    return false;
                }
            }
            return true;
        }), k);
    }

    public int make(int f, int how, int n, int m) {
        if (!fam(f) || !in(how, 0, 4) || !in(n, 0, how == 1 ? 6 : 12)) {
            return BAD;
        }
        if (how == 0 && !in(m, 0, 12) || (how == 2 || how == 3) && !in(m, 1, 12)) {
            return BAD;
        }
        List<Integer> made = new ArrayList<>();
        if (how == 0) {
            made = all(s -> s < (1 << n) && Integer.bitCount(s) == m);
        }
        for (int i = 0; how != 0 && i < n; i++) {
            int set = 0;
            for (int p = 0; how == 1 && p < 2; p++) {
                set |= 1 << (2 * i + p);
            }
            for (int p = i; (how == 2 || how == 3) && p < i + m; p++) {
                set |= 1 << (how == 2 ? p : p % n);
            }
            for (int p = 0; how == 4 && p < 12; p++) {
                set |= p % n == i ? 1 << p : 0;
            }
            if (how != 2 || i <= n - m) {
                made.add(set);
            }
        }
        LinkedHashMap<Integer, Integer> family = new LinkedHashMap<>();
        for (int s : made) {
            if (told(family, s) == FULL) {
                return FULL;
            }
        }
        families.set(f, family);
        acts.clear();
        return family.size();
    }

    public int rule(int how, int a, int b, int c) {
        boolean asksA = List.of(0, 1, 2, 3, 4, 5, 8).contains(how);
        boolean asksB = List.of(0, 1, 5).contains(how);
        if (!in(how, 0, 8) || asksA && !isRule(a) || asksB && !isRule(b)) {
            return BAD;
        }
        if (how == 2 && !in(c, -9, 9) || (how == 3 || how == 5) && !in(c, 0, 11)) {
            return BAD;
        }
        if (how == 4 && !in(c, -11, 11) || how == 7 && !fam(c)) {
            return BAD;
        }
        if (rules.size() == 12) {
            return FULL;
        }
        IntUnaryOperator first = asksA ? rules.get(a) : null;
        IntUnaryOperator second = asksB ? rules.get(b) : null;
        int[] then = prices.clone();
        rules.add(s -> tells(how, first, second, c, then, s));
        return rules.size() - 1;
    }

    private int tells(int how, IntUnaryOperator a, IntUnaryOperator b, int c, int[] then, int s) {
        int out = 0;
        switch (how) {
            case 0:
                return a.applyAsInt(s) + b.applyAsInt(s);
            case 1:
                return Math.max(a.applyAsInt(s), b.applyAsInt(s));
            case 2:
                return c * a.applyAsInt(s);
            case 3:
                return a.applyAsInt(s & ~(1 << c));
            case 4:
                for (int p : points(s)) {
                    out |= in(p + c, 0, 11) ? 1 << (p + c) : 0;
                }
                return a.applyAsInt(out);
            case 5:
                return points(s).contains(c) ? a.applyAsInt(s) : b.applyAsInt(s);
            case 6:
                for (int p : points(s)) {
                    out += then[p];
                }
                return out;
            case 7:
                for (int o : sets(c)) {
                    out += (o & s) != 0 ? 1 : 0;
                }
                return out;
            default:
                return a.applyAsInt(4095 - s);
        }
    }

    public int worth(int rule, int set) {
        return isRule(rule) && set(set) ? rules.get(rule).applyAsInt(set) : BAD;
    }

    public int best(int f, int rule, int what) {
        if (!fam(f) || !isRule(rule) || !in(what, 0, 1)) {
            return BAD;
        }
        int best = NONE;
        for (int s : dual(sets(f))) {
            if (best == NONE || worth(rule, s) < worth(rule, best)) {
                best = s;
            }
        }
        return best == NONE || what == 0 ? best : worth(rule, best);
    }

    public int ranked(int f, int rule, int k) {
        if (!fam(f) || !isRule(rule)) {
            return BAD;
        }
        List<Integer> sets = sets(f);
        sets.sort((a, b) -> Integer.compare(worth(rule, a), worth(rule, b)));
        return in(k, 0, sets.size() - 1) ? sets.get(k) : PLACE;
    }

    public int sums(int f, int rule) {
        if (!fam(f) || !isRule(rule)) {
            return BAD;
        }
        int sum = 0;
        for (int s : sets(f)) {
            for (int i = 0; i < families.get(f).get(s); i++) {
                sum += worth(rule, s);
            }
        }
        return sum;
    }

    public int sheet(int s, int sort, int n) {
        if (!in(s, 0, 3) || !in(sort, -1, 1) || sort != -1 && n > 40) {
            return BAD;
        }
        if (sort != -1 && n < 0) {
            return SIZE;
        }
        sheets[s] = sort == -1 ? null : sort == 0 ? new int[n] : new long[n];
        return 1;
    }

    private static boolean put(Object sheet, int i, long v) {
        if (!in(i, 0, java.lang.reflect.Array.getLength(sheet) - 1)) {
            return false;
        }
        if (sheet instanceof int[] ints) {
            ints[i] = (int) v;
        } else {
            ((long[]) sheet)[i] = v;
        }
        return true;
    }

    public int cell(int s, int i, long v) {
        if (!in(s, 0, 3)) {
            return BAD;
        }
        if (sheets[s] == null) {
            return NOTHING;
        }
        return put(sheets[s], i, v) ? 1 : PLACE;
    }

    public long read(int s, int i) {
        if (!in(s, 0, 3)) {
            return BAD;
        }
        if (sheets[s] == null) {
            return NOTHING;
        }
        if (!in(i, 0, java.lang.reflect.Array.getLength(sheets[s]) - 1)) {
            return PLACE;
        }
        return java.lang.reflect.Array.getLong(sheets[s], i);
    }

    public int packs(int s, int f) {
        if (!in(s, 0, 3) || !fam(f)) {
            return BAD;
        }
        if (sheets[s] == null) {
            return NOTHING;
        }
        if (!(sheets[s] instanceof long[])) {
            return KIND;
        }
        List<Integer> sets = sets(f);
        while (sets.size() % 5 != 0) {
            sets.add(0);
        }
        for (int i = 0; i < sets.size() / 5; i++) {
            long packed = 0;
            for (int j = 4; j >= 0; j--) {
                packed = packed * 4096 + sets.get(5 * i + j);
            }
            if (!put(sheets[s], i, packed)) {
                return PLACE;
            }
        }
        return sets.size() / 5;
    }

    public int unpacks(int s, int f, int n) {
        if (!in(s, 0, 3) || !fam(f) || !in(n, 0, 200)) {
            return BAD;
        }
        if (sheets[s] == null) {
            return NOTHING;
        }
        if (!(sheets[s] instanceof long[] row)) {
            return KIND;
        }
        acts.clear();
        int told = 0;
        for (int i = 0; i < n; i++) {
            if (i / 5 >= row.length) {
                return PLACE;
            }
            long v = row[i / 5];
            for (int j = 0; j < i % 5; j++) {
                v = Math.floorDiv(v, 4096L);
            }
            told += told(families.get(f), (int) Math.floorMod(v, 4096L)) == FULL ? 0 : 1;
        }
        return told;
    }

    public int freqs(int s, int f) {
        if (!in(s, 0, 3) || !fam(f)) {
            return BAD;
        }
        if (sheets[s] == null) {
            return NOTHING;
        }
        for (int p = 0; p < 12; p++) {
            if (!put(sheets[s], p, often(f, p))) {
                return PLACE;
            }
        }
        return 12;
    }

    private static List<LinkedHashMap<Integer, Integer>> copied(List<LinkedHashMap<Integer, Integer>> from) {
        List<LinkedHashMap<Integer, Integer>> to = new ArrayList<>();
        for (LinkedHashMap<Integer, Integer> family : from) {
            to.add(new LinkedHashMap<>(family));
        }
        return to;
    }

    private int sizes() {
        return size(0) + size(1) + size(2) + size(3);
    }

    public int image() {
        imagePrices = prices.clone();
        imageFamilies = copied(families);
        imageRules = rules.size();
        return sizes();
    }

    public int back() {
        if (imageFamilies == null) {
            return STATE;
        }
        prices = imagePrices.clone();
        families = copied(imageFamilies);
        rules = new ArrayList<>(rules.subList(0, imageRules));
        acts.clear();
        return sizes();
    }

    public int count(int what) {
        int sum = 0;
        for (int p : prices) {
            sum += p;
        }
        return what == 0 ? rules.size() : what == 1 ? acts.size() : what == 2 ? sum : BAD;
    }
}
