import java.util.Arrays;

/** Least sets that hit each one of a family; README.md says how to use it. */
public final class EachIsHit {
    public static final int NONE = -1, BAD = -2, STATE = -3, FULL = -4, NOTHING = -11, PLACE = -12, KIND = -13, SIZE = -14;

    private static final int POINTS = 12;
    private static final int ALL = 4095;
    private static final int FAMILIES = 4;
    private static final int SHEETS = 4;
    private static final int MOST_PRICE = 99;
    private static final int MOST_TALLY = 99;
    private static final int MOST_SETS = 40;
    private static final int MOST_ACTS = 20;
    private static final int MOST_RULES = 12;
    private static final int MOST_PLACES = 40;
    private static final int MOST_SUPPORT = 4000;
    private static final int MOST_UNPACKED = 200;
    private static final int PACKED = 5;

    private static final int TEST_HITS = 0;
    private static final int TEST_LEAST = 1;
    private static final int TEST_HAS_NONE = 2;
    private static final int TEST_IS_PART = 3;
    private static final int TEST_ODD = 4;
    private static final int TEST_IS_ONE = 5;

    private static final int MAKE_CHOSEN = 0;
    private static final int MAKE_PAIRS = 1;
    private static final int MAKE_RUNS = 2;
    private static final int MAKE_RINGS = 3;
    private static final int MAKE_CLASSES = 4;

    private static final int RULE_SUM = 0;
    private static final int RULE_GREATER = 1;
    private static final int RULE_TIMES = 2;
    private static final int RULE_WITHOUT = 3;
    private static final int RULE_SHIFTED = 4;
    private static final int RULE_CHOICE = 5;
    private static final int RULE_OLD_PRICES = 6;
    private static final int RULE_MET = 7;
    private static final int RULE_REST = 8;
    // The four that are there at first have hows that no caller can tell.
    private static final int FIRST_RULES = 4;
    private static final int RULE_POINTS = 9;
    private static final int RULE_PRICES = 10;
    private static final int RULE_DEAREST = 11;
    private static final int RULE_NUMBER = 12;

    private static final int ACT_PRICE = 0;
    private static final int ACT_TOLD = 1;
    private static final int ACT_TAKEN = 2;

    private static final int MISSING = -1;
    private static final int INTS = 0;
    private static final int LONGS = 1;

    private final Stock now;
    private final Stock kept;
    private boolean isKept;
    private final Rule[] rules;
    private final Acts acts;
    private final Sheet[] sheets;
    private final Walk walk;
    private final Family spare;
    private final Table hits;
    private final Table least;
    private final int[] worths;

    public EachIsHit() {
        now = new Stock();
        kept = new Stock();
        isKept = false;
        rules = new Rule[MOST_RULES];
        // Those behind the first four are told anew before they can be asked.
        for (int i = 0; i < MOST_RULES; i++) {
            rules[i] = new Rule(RULE_POINTS + i);
        }
        acts = new Acts();
        sheets = new Sheet[SHEETS];
        for (int s = 0; s < SHEETS; s++) {
            sheets[s] = new Sheet();
        }
        walk = new Walk();
        spare = new Family();
        hits = new Table();
        least = new Table();
        worths = new int[MOST_SETS];
    }

    // ---- prices, families

    public int price(int point, int v) {
        if (isNoPoint(point) || v < 0 || v > MOST_PRICE) {
            return BAD;
        }
        int old = now.prices[point];
        if (old != v) {
            now.prices[point] = v;
            acts.remember(ACT_PRICE, point, old);
        }
        return old;
    }

    public int priceOf(int point) {
        return isNoPoint(point) ? BAD : now.prices[point];
    }

    public int tell(int f, int set) {
        if (isNoFamily(f) || isNoSet(set)) {
            return BAD;
        }
        int old = now.families[f].tallyOf(set);
        int tally = now.families[f].add(set);
        if (tally != FULL && tally != old) {
            acts.remember(ACT_TOLD, f, set);
        }
        return tally;
    }

    public int take(int f, int set) {
        if (isNoFamily(f) || isNoSet(set)) {
            return BAD;
        }
        int tally = now.families[f].drop(set);
        if (tally != NONE) {
            acts.remember(ACT_TAKEN, f, set);
        }
        return tally;
    }

    public int tally(int f, int set) {
        return isNoFamily(f) || isNoSet(set) ? BAD : now.families[f].tallyOf(set);
    }

    public int at(int f, int k) {
        if (isNoFamily(f)) {
            return BAD;
        }
        Family family = now.families[f];
        return k < 0 || k >= family.held ? PLACE : family.sets[k];
    }

    public int size(int f) {
        return isNoFamily(f) ? BAD : now.families[f].held;
    }

    public int wipe(int f) {
        if (isNoFamily(f)) {
            return BAD;
        }
        int held = now.families[f].held;
        now.families[f].clear();
        acts.forgetAll();
        return held;
    }

    public int copy(int f, int g) {
        if (isNoFamily(f) || isNoFamily(g)) {
            return BAD;
        }
        now.families[g].become(now.families[f]);
        acts.forgetAll();
        return now.families[g].held;
    }

    public int undo() {
        if (acts.known <= 0) {
            return NONE;
        }
        int last = acts.forgetLast();
        int where = acts.wheres[last];
        int what = acts.whats[last];
        switch (acts.kinds[last]) {
            case ACT_PRICE:
                now.prices[where] = what;
                break;
            case ACT_TOLD:
                now.families[where].drop(what);
                break;
            default:
                now.families[where].add(what);
                break;
        }
        return acts.known;
    }

    // ---- what hits

    public int often(int f, int point) {
        return isNoFamily(f) || isNoPoint(point) ? BAD : now.families[f].countWith(point);
    }

    public int top(int f) {
        return isNoFamily(f) ? BAD : topPoint(now.families[f].sets, now.families[f].held);
    }

    public int isSimple(int f) {
        if (isNoFamily(f)) {
            return BAD;
        }
        Family family = now.families[f];
        for (int k = 0; k < family.held; k++) {
            if (family.hasPart(k)) {
                return 0;
            }
        }
        return 1;
    }

    public int lean(int f) {
        if (isNoFamily(f)) {
            return BAD;
        }
        Family family = now.families[f];
        int held = family.held;
        spare.clear();
        for (int k = 0; k < held; k++) {
            if (!family.hasPart(k)) {
                spare.append(family.sets[k], family.tallies[k]);
            }
        }
        family.become(spare);
        acts.forgetAll();
        return held - family.held;
    }

    public int test(int f, int test, int set) {
        if (isNoFamily(f) || isNoTest(test) || isNoSet(set)) {
            return BAD;
        }
        return tableOf(test, now.families[f]).has(set) ? 1 : 0;
    }

    public int counted(int f, int test, int not, int n) {
        if (isNoFamily(f) || isNoTest(test) || not < 0 || not > 1 || n < 0 || n > POINTS) {
            return BAD;
        }
        Table does = tableOf(test, now.families[f]);
        if (not == 1) {
            does.flip();
        }
        return does.countOf(n);
    }

    public int dual(int f, int k) {
        if (isNoFamily(f)) {
            return BAD;
        }
        findDual(now.families[f]);
        return listed(least, k);
    }

    public int into(int f, int g) {
        if (isNoFamily(f) || isNoFamily(g)) {
            return BAD;
        }
        findDual(now.families[f]);
        int count = least.countAll();
        if (count > MOST_SETS) {
            return FULL;
        }
        now.families[g].clear();
        for (int k = 0; k < count; k++) {
            now.families[g].append(least.pick(k), 1);
        }
        acts.forgetAll();
        return count;
    }

    public int verdict(int f, int g, int what) {
        if (isNoFamily(f) || isNoFamily(g) || what < 0 || what > 1) {
            return BAD;
        }
        findDual(now.families[f]);
        Family judged = now.families[g];
        int verdict = 1;
        int witness = judged.firstOutside(hits);
        if (witness == NONE) {
            verdict = 2;
            witness = judged.firstOutside(least);
        }
        if (witness == NONE) {
            verdict = 3;
            witness = firstNotHeld(least, judged);
        }
        if (what == 1) {
            return witness;
        }
        return witness == NONE ? 0 : verdict;
    }

    public int tree(int f, int what) {
        if (isNoFamily(f) || what < 0 || what > 2) {
            return BAD;
        }
        walk.start(now.families[f], NONE);
        switch (what) {
            case 0:
                return walk.nodes;
            case 1:
                return walk.deepest;
            default:
                return walk.bare;
        }
    }

    public int node(int f, int i, int what) {
        if (isNoFamily(f) || what < 0 || what > 3) {
            return BAD;
        }
        if (i < 0) {
            return PLACE;
        }
        walk.start(now.families[f], i);
        if (!walk.isFound) {
            return PLACE;
        }
        switch (what) {
            case 0:
                return walk.point;
            case 1:
                return walk.sets;
            case 2:
                return walk.depth;
            default:
                return walk.had;
        }
    }

    public int keys(int f, int k) {
        if (isNoFamily(f)) {
            return BAD;
        }
        hits.becomeTelling(now.families[f]);
        least.becomeLeastOf(hits);
        return listed(least, k);
    }

    public int support(int f, int set) {
        return isNoFamily(f) || isNoSet(set) ? BAD : now.families[f].talliesAround(set);
    }

    public int border(int f, int t, int side, int k) {
        if (isNoFamily(f) || t < 0 || t > MOST_SUPPORT || side < 0 || side > 1) {
            return BAD;
        }
        hits.becomeCommon(now.families[f], t);
        if (side == 0) {
            least.becomeGreatestOf(hits);
        } else {
            hits.flip();
            least.becomeLeastOf(hits);
        }
        return listed(least, k);
    }

    public int make(int f, int how, int n, int m) {
        if (isNoFamily(f) || !canMake(how, n, m)) {
            return BAD;
        }
        if (!fillSpare(how, n, m)) {
            return FULL;
        }
        now.families[f].become(spare);
        acts.forgetAll();
        return spare.held;
    }

    // ---- rules

    public int rule(int how, int a, int b, int c) {
        if (how < RULE_SUM || how > RULE_REST || !fitsHow(how, c)) {
            return BAD;
        }
        if ((asksFirst(how) && isNoRule(a)) || (asksSecond(how) && isNoRule(b))) {
            return BAD;
        }
        if (now.rules >= MOST_RULES) {
            return FULL;
        }
        rules[now.rules].become(how, a, b, c, now.prices);
        now.rules++;
        return now.rules - 1;
    }

    public int worth(int rule, int set) {
        return isNoRule(rule) || isNoSet(set) ? BAD : tellsNow(rule, set);
    }

    public int best(int f, int rule, int what) {
        if (isNoFamily(f) || isNoRule(rule) || what < 0 || what > 1) {
            return BAD;
        }
        findDual(now.families[f]);
        int best = least.next(0);
        if (best == NONE) {
            return NONE;
        }
        int lowest = tellsNow(rule, best);
        int set = best;
        for (int left = least.countAll() - 1; left > 0; left--) {
            set = least.next(set + 1);
            int told = tellsNow(rule, set);
            if (told < lowest) {
                lowest = told;
                best = set;
            }
        }
        return what == 0 ? best : lowest;
    }

    public int ranked(int f, int rule, int k) {
        if (isNoFamily(f) || isNoRule(rule)) {
            return BAD;
        }
        Family family = now.families[f];
        if (k < 0 || k >= family.held) {
            return PLACE;
        }
        for (int i = 0; i < family.held; i++) {
            worths[i] = tellsNow(rule, family.sets[i]);
        }
        int i = 0;
        while (i < family.held - 1 && rankOf(i, family.held) != k) {
            i++;
        }
        return family.sets[i];
    }

    public int sums(int f, int rule) {
        if (isNoFamily(f) || isNoRule(rule)) {
            return BAD;
        }
        Family family = now.families[f];
        int sum = 0;
        for (int k = 0; k < family.held; k++) {
            sum += family.tallies[k] * tellsNow(rule, family.sets[k]);
        }
        return sum;
    }

    // ---- sheets

    public int sheet(int s, int sort, int n) {
        if (isNoSheet(s) || sort < MISSING || sort > LONGS) {
            return BAD;
        }
        if (sort == MISSING) {
            sheets[s].become(MISSING, 0);
            return 1;
        }
        if (n > MOST_PLACES) {
            return BAD;
        }
        if (n < 0) {
            return SIZE;
        }
        sheets[s].become(sort, n);
        return 1;
    }

    public int cell(int s, int i, long v) {
        if (isNoSheet(s)) {
            return BAD;
        }
        if (sheets[s].sort == MISSING) {
            return NOTHING;
        }
        return sheets[s].put(i, v) ? 1 : PLACE;
    }

    public long read(int s, int i) {
        if (isNoSheet(s)) {
            return BAD;
        }
        Sheet sheet = sheets[s];
        if (sheet.sort == MISSING) {
            return NOTHING;
        }
        return i < 0 || i >= sheet.places ? PLACE : sheet.row[i];
    }

    public int packs(int s, int f) {
        if (isNoSheet(s) || isNoFamily(f)) {
            return BAD;
        }
        Sheet sheet = sheets[s];
        if (sheet.sort != LONGS) {
            return sheet.sort == MISSING ? NOTHING : KIND;
        }
        Family family = now.families[f];
        int places = 0;
        for (int k = 0; k < family.held; k += PACKED) {
            if (!sheet.put(places, family.packedFrom(k))) {
                return PLACE;
            }
            places++;
        }
        return places;
    }

    public int unpacks(int s, int f, int n) {
        if (isNoSheet(s) || isNoFamily(f) || n < 0 || n > MOST_UNPACKED) {
            return BAD;
        }
        Sheet sheet = sheets[s];
        if (sheet.sort != LONGS) {
            return sheet.sort == MISSING ? NOTHING : KIND;
        }
        acts.forgetAll();
        int told = 0;
        for (int i = 0; i < n; i++) {
            if (i / PACKED >= sheet.places) {
                return PLACE;
            }
            if (now.families[f].add(sheet.packedAt(i)) != FULL) {
                told++;
            }
        }
        return told;
    }

    public int freqs(int s, int f) {
        if (isNoSheet(s) || isNoFamily(f)) {
            return BAD;
        }
        if (sheets[s].sort == MISSING) {
            return NOTHING;
        }
        for (int p = 0; p < POINTS; p++) {
            if (!sheets[s].put(p, now.families[f].countWith(p))) {
                return PLACE;
            }
        }
        return POINTS;
    }

    public int image() {
        kept.become(now);
        isKept = true;
        return now.heldInAll();
    }

    public int back() {
        if (!isKept) {
            return STATE;
        }
        now.become(kept);
        acts.forgetAll();
        return now.heldInAll();
    }

    public int count(int what) {
        switch (what) {
            case 0:
                return now.rules;
            case 1:
                return acts.known;
            case 2:
                return priceOfAll(ALL, now.prices);
            default:
                return BAD;
        }
    }

    // ---- what is no such thing

    private static boolean isNoPoint(int point) {
        return point < 0 || point >= POINTS;
    }

    private static boolean isNoSet(int set) {
        return set < 0 || set > ALL;
    }

    private static boolean isNoFamily(int f) {
        return f < 0 || f >= FAMILIES;
    }

    private static boolean isNoSheet(int s) {
        return s < 0 || s >= SHEETS;
    }

    private static boolean isNoTest(int test) {
        return test < TEST_HITS || test > TEST_IS_ONE;
    }

    private boolean isNoRule(int rule) {
        return rule < 0 || rule >= now.rules;
    }

    // ---- how it is found out

    private static boolean hasPoint(int set, int point) {
        return ((set >> point) & 1) != 0;
    }

    private static boolean isPart(int part, int whole) {
        return (part & ~whole) == 0;
    }

    /** The point that is in most of the first sets of a row, or NONE. */
    private static int topPoint(int[] row, int held) {
        int top = NONE;
        int most = 0;
        for (int p = 0; p < POINTS; p++) {
            int count = 0;
            for (int k = 0; k < held; k++) {
                count += (row[k] >> p) & 1;
            }
            if (count > most) {
                most = count;
                top = p;
            }
        }
        return top;
    }

    /** Leaves what hits a family in hits, and its dual in least. */
    private void findDual(Family family) {
        hits.becomeHitting(family);
        least.becomeLeastOf(hits);
    }

    private Table tableOf(int test, Family family) {
        switch (test) {
            case TEST_HITS:
                hits.becomeHitting(family);
                return hits;
            case TEST_LEAST:
                findDual(family);
                return least;
            case TEST_HAS_NONE:
                hits.becomeSetsOf(family);
                hits.addWholes();
                hits.flip();
                return hits;
            case TEST_IS_PART:
                hits.becomeSetsOf(family);
                hits.addParts();
                return hits;
            case TEST_ODD:
                hits.becomeOdd(family);
                return hits;
            default:
                hits.becomeSetsOf(family);
                return hits;
        }
    }

    private static int listed(Table table, int k) {
        if (k == -1) {
            return table.countAll();
        }
        return k < 0 ? PLACE : table.pick(k);
    }

    private static int firstNotHeld(Table table, Family family) {
        int set = NONE;
        for (int left = table.countAll(); left > 0; left--) {
            set = table.next(set + 1);
            if (family.placeOf(set) == NONE) {
                return set;
            }
        }
        return NONE;
    }

    private static boolean canMake(int how, int n, int m) {
        if (n < 0) {
            return false;
        }
        switch (how) {
            case MAKE_CHOSEN:
                return n <= POINTS && m >= 0 && m <= POINTS;
            case MAKE_PAIRS:
                return n <= POINTS / 2;
            case MAKE_RUNS:
            case MAKE_RINGS:
                return n <= POINTS && m >= 1 && m <= POINTS;
            case MAKE_CLASSES:
                return n <= POINTS;
            default:
                return false;
        }
    }

    /** Tells the sets that are made to the spare family: false, if it can't hold them. */
    private boolean fillSpare(int how, int n, int m) {
        int steps = n;
        if (how == MAKE_CHOSEN) {
            steps = 1 << n;
        } else if (how == MAKE_RUNS) {
            steps = n - m + 1;
        }
        spare.clear();
        for (int i = 0; i < steps; i++) {
            boolean isLeftOut = how == MAKE_CHOSEN && Integer.bitCount(i) != m;
            if (!isLeftOut && spare.add(madeSet(how, n, m, i)) == FULL) {
                return false;
            }
        }
        return true;
    }

    private static int madeSet(int how, int n, int m, int i) {
        switch (how) {
            case MAKE_CHOSEN:
                return i;
            case MAKE_PAIRS:
                return 3 << (2 * i);
            case MAKE_RUNS:
                return ((1 << m) - 1) << i;
            case MAKE_RINGS:
                return ringSet(n, m, i);
            default:
                return classSet(n, i);
        }
    }

    private static int ringSet(int n, int m, int i) {
        int set = 0;
        for (int p = i; n > 0 && p < i + m; p++) {
            set |= 1 << (p % n);
        }
        return set;
    }

    private static int classSet(int n, int i) {
        int set = 0;
        for (int p = i; n > 0 && p < POINTS; p += n) {
            set |= 1 << p;
        }
        return set;
    }

    private static boolean asksFirst(int how) {
        return how <= RULE_CHOICE || how == RULE_REST;
    }

    private static boolean asksSecond(int how) {
        return how == RULE_SUM || how == RULE_GREATER || how == RULE_CHOICE;
    }

    private static boolean fitsHow(int how, int c) {
        switch (how) {
            case RULE_TIMES:
                return c >= -9 && c <= 9;
            case RULE_WITHOUT:
            case RULE_CHOICE:
                return !isNoPoint(c);
            case RULE_SHIFTED:
                return c > -POINTS && c < POINTS;
            case RULE_MET:
                return !isNoFamily(c);
            default:
                return true;
        }
    }

    /** What a rule tells of a set, as things are now. */
    private int tellsNow(int number, int set) {
        for (int i = 0; i < MOST_RULES; i++) {
            rules[i].lastSet = NONE;
        }
        return tells(number, set, 0);
    }

    /**
     * What a rule tells; a rule's parts came ahead of it, so that the depth stays below the number of rules.
     * It keeps its last answer, as rules of rules of rules ask the same part of the same set again and again.
     */
    private int tells(int number, int set, int depth) {
        if (isNoRule(number) || depth >= MOST_RULES) {
            return 0;
        }
        Rule rule = rules[number];
        if (rule.lastSet != set) {
            rule.lastAnswer = tellsByParts(rule, set, depth);
            rule.lastSet = set;
        }
        return rule.lastAnswer;
    }

    private int tellsByParts(Rule rule, int set, int depth) {
        switch (rule.how) {
            case RULE_SUM:
                return tells(rule.a, set, depth + 1) + tells(rule.b, set, depth + 1);
            case RULE_GREATER:
                return Math.max(tells(rule.a, set, depth + 1), tells(rule.b, set, depth + 1));
            case RULE_TIMES:
                return rule.c * tells(rule.a, set, depth + 1);
            case RULE_WITHOUT:
                return tells(rule.a, set & ~(1 << rule.c), depth + 1);
            case RULE_SHIFTED:
                return tells(rule.a, shifted(set, rule.c), depth + 1);
            case RULE_CHOICE:
                return tells(hasPoint(set, rule.c) ? rule.a : rule.b, set, depth + 1);
            case RULE_REST:
                return tells(rule.a, ALL & ~set, depth + 1);
            default:
                return tellsAlone(rule, set);
        }
    }

    /** What a rule tells that has no rules as parts. */
    private int tellsAlone(Rule rule, int set) {
        switch (rule.how) {
            case RULE_OLD_PRICES:
                return priceOfAll(set, rule.prices);
            case RULE_MET:
                return isNoFamily(rule.c) ? 0 : now.families[rule.c].countMet(set);
            case RULE_POINTS:
                return Integer.bitCount(set);
            case RULE_PRICES:
                return priceOfAll(set, now.prices);
            case RULE_DEAREST:
                return dearest(set, now.prices);
            default:
                return set;
        }
    }

    private static int shifted(int set, int by) {
        return by >= 0 ? (set << by) & ALL : set >> -by;
    }

    private static int priceOfAll(int set, int[] prices) {
        int sum = 0;
        for (int p = 0; p < POINTS; p++) {
            if (hasPoint(set, p)) {
                sum += prices[p];
            }
        }
        return sum;
    }

    private static int dearest(int set, int[] prices) {
        int most = 0;
        for (int p = 0; p < POINTS; p++) {
            if (hasPoint(set, p)) {
                most = Math.max(most, prices[p]);
            }
        }
        return most;
    }

    /** The place in order of worths[i] among the first ones, like ones as they came. */
    private int rankOf(int i, int held) {
        int rank = 0;
        for (int j = 0; j < held; j++) {
            if (worths[j] < worths[i] || (worths[j] == worths[i] && j < i)) {
                rank++;
            }
        }
        return rank;
    }

    /** Sets in the order in which they came, each with its tally. */
    private static final class Family {
        final int[] sets;
        final int[] tallies;
        int held;

        Family() {
            sets = new int[MOST_SETS];
            tallies = new int[MOST_SETS];
            held = 0;
        }

        int placeOf(int set) {
            for (int k = 0; k < held; k++) {
                if (sets[k] == set) {
                    return k;
                }
            }
            return NONE;
        }

        int tallyOf(int set) {
            int k = placeOf(set);
            return k == NONE ? 0 : tallies[k];
        }

        /** Tells it a set: its tally, or FULL. */
        int add(int set) {
            int k = placeOf(set);
            if (k == NONE) {
                return append(set, 1);
            }
            tallies[k] = Math.min(tallies[k] + 1, MOST_TALLY);
            return tallies[k];
        }

        /** Puts a set last that it doesn't hold yet: its tally, or FULL. */
        int append(int set, int tally) {
            if (held >= MOST_SETS) {
                return FULL;
            }
            sets[held] = set;
            tallies[held] = tally;
            held++;
            return tally;
        }

        /** Takes a set from it: its tally, or NONE. */
        int drop(int set) {
            int k = placeOf(set);
            if (k == NONE) {
                return NONE;
            }
            tallies[k]--;
            int tally = tallies[k];
            if (tally == 0) {
                removeAt(k);
            }
            return tally;
        }

        void removeAt(int place) {
            held--;
            for (int k = place; k < held; k++) {
                sets[k] = sets[k + 1];
                tallies[k] = tallies[k + 1];
            }
        }

        void clear() {
            held = 0;
        }

        void become(Family other) {
            held = other.held;
            System.arraycopy(other.sets, 0, sets, 0, MOST_SETS);
            System.arraycopy(other.tallies, 0, tallies, 0, MOST_SETS);
        }

        int countWith(int point) {
            return countMet(1 << point);
        }

        /** How many of its sets have a point in common with a set. */
        int countMet(int set) {
            int count = 0;
            for (int k = 0; k < held; k++) {
                if ((sets[k] & set) != 0) {
                    count++;
                }
            }
            return count;
        }

        /** Whether another one of its sets is a part of the set at a place. */
        boolean hasPart(int place) {
            for (int k = 0; k < held; k++) {
                if (k != place && isPart(sets[k], sets[place])) {
                    return true;
                }
            }
            return false;
        }

        int talliesAround(int set) {
            int sum = 0;
            for (int k = 0; k < held; k++) {
                if (isPart(set, sets[k])) {
                    sum += tallies[k];
                }
            }
            return sum;
        }

        int firstOutside(Table table) {
            for (int k = 0; k < held; k++) {
                if (!table.has(sets[k])) {
                    return sets[k];
                }
            }
            return NONE;
        }

        long packedFrom(int place) {
            long packed = 0;
            for (int i = 0; i < PACKED && place + i < held; i++) {
                packed |= (long) sets[place + i] << (POINTS * i);
            }
            return packed;
        }
    }

    /** All that an image keeps. */
    private static final class Stock {
        final int[] prices;
        final Family[] families;
        int rules;

        Stock() {
            prices = new int[POINTS];
            Arrays.fill(prices, 1);
            families = new Family[FAMILIES];
            for (int f = 0; f < FAMILIES; f++) {
                families[f] = new Family();
            }
            rules = FIRST_RULES;
        }

        void become(Stock other) {
            System.arraycopy(other.prices, 0, prices, 0, POINTS);
            for (int f = 0; f < FAMILIES; f++) {
                families[f].become(other.families[f]);
            }
            rules = other.rules;
        }

        int heldInAll() {
            int sum = 0;
            for (int f = 0; f < FAMILIES; f++) {
                sum += families[f].held;
            }
            return sum;
        }
    }

    /** How a rule tells; a, b, c only matter where its how asks for them. */
    private static final class Rule {
        int how;
        int a;
        int b;
        int c;
        final int[] prices;
        int lastSet;
        int lastAnswer;

        Rule(int how) {
            this.how = how;
            prices = new int[POINTS];
            lastSet = NONE;
        }

        void become(int newHow, int newA, int newB, int newC, int[] newPrices) {
            how = newHow;
            a = newA;
            b = newB;
            c = newC;
            System.arraycopy(newPrices, 0, prices, 0, POINTS);
        }
    }

    /** Remembered acts, the oldest first. */
    private static final class Acts {
        final int[] kinds;
        final int[] wheres;
        final int[] whats;
        int known;

        Acts() {
            kinds = new int[MOST_ACTS];
            wheres = new int[MOST_ACTS];
            whats = new int[MOST_ACTS];
            known = 0;
        }

        void remember(int kind, int where, int what) {
            if (known == MOST_ACTS) {
                forgetOldest();
            }
            kinds[known] = kind;
            wheres[known] = where;
            whats[known] = what;
            known++;
        }

        void forgetOldest() {
            known--;
            System.arraycopy(kinds, 1, kinds, 0, MOST_ACTS - 1);
            System.arraycopy(wheres, 1, wheres, 0, MOST_ACTS - 1);
            System.arraycopy(whats, 1, whats, 0, MOST_ACTS - 1);
        }

        /** The place of the last one, which can still be read there. */
        int forgetLast() {
            known = Math.max(known - 1, 0);
            return known;
        }

        void forgetAll() {
            known = 0;
        }
    }

    /** A row of numbers; ints stand in it as longs of like worth. */
    private static final class Sheet {
        final long[] row;
        int sort;
        int places;

        Sheet() {
            row = new long[MOST_PLACES];
            sort = MISSING;
            places = 0;
        }

        void become(int newSort, int newPlaces) {
            sort = newSort;
            places = newPlaces;
            Arrays.fill(row, 0L);
        }

        boolean put(int i, long v) {
            if (i < 0 || i >= places) {
                return false;
            }
            row[i] = sort == INTS ? (int) v : v;
            return true;
        }

        int packedAt(int i) {
            return (int) (row[i / PACKED] >>> (POINTS * (i % PACKED))) & ALL;
        }
    }

    /**
     * Which ones of all sets are in. Set s is bit s % 64 of word s / 64: points 0 .. 5 shift within a word,
     * points 6 .. 11 are those of the word's own number, so that 64 sets are worked on at once.
     */
    private static final class Table {
        private static final int WORDS = 64;
        private static final int LOW_POINTS = 6;
        private static final int LOW = 63;
        // Bits of a word whose number has point 0 .. 5.
        private static final long[] WITH = {
            0xAAAAAAAAAAAAAAAAL, 0xCCCCCCCCCCCCCCCCL, 0xF0F0F0F0F0F0F0F0L,
            0xFF00FF00FF00FF00L, 0xFFFF0000FFFF0000L, 0xFFFFFFFF00000000L
        };
        // Bits of a word whose number has 0 .. 6 points.
        private static final long[] OF_COUNT = {
            0x0000000000000001L, 0x0000000100010116L, 0x0001011601161668L, 0x0116166816686880L,
            0x1668688068808000L, 0x6880800080000000L, 0x8000000000000000L
        };

        final long[] words;
        final int[] supports;

        Table() {
            words = new long[WORDS];
            supports = new int[WORDS];
        }

        void put(int set) {
            words[(set >> LOW_POINTS) & LOW] |= 1L << (set & LOW);
        }

        boolean has(int set) {
            return ((words[(set >> LOW_POINTS) & LOW] >>> (set & LOW)) & 1L) != 0;
        }

        void flip() {
            for (int w = 0; w < WORDS; w++) {
                words[w] = ~words[w];
            }
        }

        /** All parts of what is in come in, too. */
        void addParts() {
            for (int w = 0; w < WORDS; w++) {
                for (int p = 0; p < LOW_POINTS; p++) {
                    words[w] |= (words[w] & WITH[p]) >>> (1 << p);
                }
            }
            for (int bit = 1; bit < WORDS; bit <<= 1) {
                for (int w = 0; w < WORDS; w++) {
                    words[w & ~bit] |= words[w];
                }
            }
        }

        /** All sets of which one that is in is a part come in, too. */
        void addWholes() {
            for (int w = 0; w < WORDS; w++) {
                for (int p = 0; p < LOW_POINTS; p++) {
                    words[w] |= (words[w] & ~WITH[p]) << (1 << p);
                }
            }
            for (int bit = 1; bit < WORDS; bit <<= 1) {
                for (int w = 0; w < WORDS; w++) {
                    words[w | bit] |= words[w];
                }
            }
        }

        void becomeSetsOf(Family family) {
            Arrays.fill(words, 0L);
            for (int k = 0; k < family.held; k++) {
                put(family.sets[k]);
            }
        }

        /** A set misses another one, if it is a part of the points that the other one hasn't. */
        void becomeHitting(Family family) {
            Arrays.fill(words, 0L);
            for (int k = 0; k < family.held; k++) {
                put(ALL ^ family.sets[k]);
            }
            addParts();
            flip();
        }

        /** What hits all points by which two sets of a family are told apart. */
        void becomeTelling(Family family) {
            Arrays.fill(words, 0L);
            for (int k = 1; k < family.held; k++) {
                for (int j = 0; j < k; j++) {
                    put(ALL ^ family.sets[k] ^ family.sets[j]);
                }
            }
            addParts();
            flip();
        }

        void becomeOdd(Family family) {
            Arrays.fill(words, -1L);
            for (int k = 0; k < family.held; k++) {
                keepOdd(family.sets[k]);
            }
        }

        void keepOdd(int set) {
            long odd = 0;
            for (int p = 0; p < LOW_POINTS; p++) {
                if (hasPoint(set, p)) {
                    odd ^= WITH[p];
                }
            }
            int high = set >> LOW_POINTS;
            for (int w = 0; w < WORDS; w++) {
                words[w] &= (Integer.bitCount(high & w) & 1) == 0 ? odd : ~odd;
            }
        }

        void becomeCommon(Family family, int t) {
            for (int w = 0; w < WORDS; w++) {
                words[w] = commonWord(family, t, w);
            }
        }

        private long commonWord(Family family, int t, int w) {
            int most = 0;
            Arrays.fill(supports, 0);
            for (int k = 0; k < family.held; k++) {
                if (isPart(w, family.sets[k] >> LOW_POINTS)) {
                    supports[family.sets[k] & LOW] += family.tallies[k];
                    most += family.tallies[k];
                }
            }
            if (most < t) {
                return 0;
            }
            for (int bit = 1; bit < WORDS; bit <<= 1) {
                for (int low = 0; low < WORDS; low++) {
                    if ((low & bit) == 0) {
                        supports[low] += supports[low | bit];
                    }
                }
            }
            long word = 0;
            for (int low = 0; low < WORDS; low++) {
                if (supports[low] >= t) {
                    word |= 1L << low;
                }
            }
            return word;
        }

        /** Those of another table that aren't in it without any one of their points. */
        void becomeLeastOf(Table other) {
            for (int w = 0; w < WORDS; w++) {
                long in = other.words[w];
                long sparing = 0;
                for (int p = 0; p < LOW_POINTS; p++) {
                    sparing |= (in & ~WITH[p]) << (1 << p);
                    if (hasPoint(w, p)) {
                        sparing |= other.words[w & ~(1 << p)];
                    }
                }
                words[w] = in & ~sparing;
            }
        }

        /** Those of another table that aren't in it with any one point more. */
        void becomeGreatestOf(Table other) {
            for (int w = 0; w < WORDS; w++) {
                long in = other.words[w];
                long growing = 0;
                for (int p = 0; p < LOW_POINTS; p++) {
                    growing |= (in & WITH[p]) >>> (1 << p);
                    if (!hasPoint(w, p)) {
                        growing |= other.words[w | (1 << p)];
                    }
                }
                words[w] = in & ~growing;
            }
        }

        int countAll() {
            int count = 0;
            for (int w = 0; w < WORDS; w++) {
                count += Long.bitCount(words[w]);
            }
            return count;
        }

        /** How many are in that have so many points. */
        int countOf(int points) {
            int count = 0;
            for (int w = 0; w < WORDS; w++) {
                int low = points - Integer.bitCount(w);
                if (low >= 0 && low <= LOW_POINTS) {
                    count += Long.bitCount(words[w] & OF_COUNT[low]);
                }
            }
            return count;
        }

        /** The one at place k (0 or more) in order as numbers, or PLACE. */
        int pick(int k) {
            int left = k;
            for (int w = 0; w < WORDS; w++) {
                int count = Long.bitCount(words[w]);
                if (left < count) {
                    return (w << LOW_POINTS) + placeOfBit(words[w], left);
                }
                left -= count;
            }
            return PLACE;
        }

        private static int placeOfBit(long word, int k) {
            long rest = word;
            for (int i = 0; i < k; i++) {
                rest &= rest - 1;
            }
            return Long.bitCount((rest & -rest) - 1);
        }

        /** The first one from a set on, or NONE. */
        int next(int from) {
            if (isNoSet(from)) {
                return NONE;
            }
            int w = from >> LOW_POINTS;
            long rest = words[w] & (-1L << (from & LOW));
            while (rest == 0 && w < WORDS - 1) {
                w++;
                rest = words[w];
            }
            return rest == 0 ? NONE : (w << LOW_POINTS) + placeOfBit(rest, 0);
        }
    }

    /** Goes through the tree of a family, up to the node that is wanted or to its end. */
    private static final class Walk {
        // Each branch rids all sets below it of a point, so that no node is deeper than there are points.
        final int[][] rows;
        int wanted;
        int nodes;
        int deepest;
        int bare;
        boolean isFound;
        int point;
        int sets;
        int depth;
        int had;

        Walk() {
            rows = new int[POINTS + 1][MOST_SETS];
        }

        void start(Family family, int number) {
            wanted = number;
            nodes = 0;
            deepest = 0;
            bare = 0;
            isFound = false;
            int held = 0;
            for (int k = 0; k < family.held; k++) {
                if (!family.hasPart(k)) {
                    rows[0][held] = family.sets[k];
                    held++;
                }
            }
            visit(0, held, 0);
        }

        private void visit(int level, int held, int points) {
            if (isFound || level > POINTS) {
                return;
            }
            int branch = topPoint(rows[level], held);
            isFound = nodes == wanted;
            if (isFound) {
                point = branch;
                sets = held;
                depth = level;
                had = points;
                return;
            }
            nodes++;
            deepest = Math.max(deepest, level);
            if (held == 0) {
                bare++;
            }
            if (branch == NONE || level == POINTS) {
                return;
            }
            visit(level + 1, keepWithout(level, held, branch), points | (1 << branch));
            visit(level + 1, keepReduced(level, held, branch), points);
        }

        /** Puts the sets that haven't a point one level deeper: how many. */
        private int keepWithout(int level, int held, int branch) {
            int[] from = rows[level];
            int[] to = rows[level + 1];
            int kept = 0;
            for (int k = 0; k < held; k++) {
                if (!hasPoint(from[k], branch)) {
                    to[kept] = from[k];
                    kept++;
                }
            }
            return kept;
        }

        /**
         * Puts all sets, a point taken from each, one level deeper, without those that have another one as a
         * part: how many. As no set of a node is a part of another one, only those can go that hadn't the
         * point, and only because of those that had it.
         */
        private int keepReduced(int level, int held, int branch) {
            int[] from = rows[level];
            int[] to = rows[level + 1];
            int reduced = 0;
            for (int k = 0; k < held; k++) {
                if (hasPoint(from[k], branch)) {
                    to[reduced] = from[k] & ~(1 << branch);
                    reduced++;
                }
            }
            int kept = reduced;
            for (int k = 0; k < held; k++) {
                if (!hasPoint(from[k], branch) && !hasPartIn(to, reduced, from[k])) {
                    to[kept] = from[k];
                    kept++;
                }
            }
            return kept;
        }

        private static boolean hasPartIn(int[] row, int held, int set) {
            for (int k = 0; k < held; k++) {
                if (isPart(row[k], set)) {
                    return true;
                }
            }
            return false;
        }
    }
}
