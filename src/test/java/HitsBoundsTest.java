/** Boundary cases of promises 12 to 26, each sentence of the document with a test of its own. */
public final class HitsBoundsTest {
    private static final int NONE = -1, BAD = -2, FULL = -4, PLACE = -12;
    private static final int[] CHOICES = {1, 12, 66, 220, 495, 792, 924, 792, 495, 220, 66, 12, 1};

    private interface Listed {
        int at(EachIsHit x, int k);
    }

    private static void due(String call, long got, long want) {
        Due.due(call, got, want);
    }

    /** Family 0 holds these. */
    private static EachIsHit with(int... sets) {
        EachIsHit x = new EachIsHit();
        for (int set : sets) {
            x.tell(0, set);
        }
        return x;
    }

    /** Family 0 holds the twelve sets of one point. */
    private static EachIsHit withSingles() {
        EachIsHit x = new EachIsHit();
        for (int p = 0; p < 12; p++) {
            x.tell(0, 1 << p);
        }
        return x;
    }

    /** Family 1 holds 40 sets of tally 99: all pairs of points 0 .. 8 and points 0 .. 3 alone. */
    private static EachIsHit heavy() {
        EachIsHit x = new EachIsHit();
        x.make(1, 0, 9, 2);
        for (int p = 0; p < 4; p++) {
            x.tell(1, 1 << p);
        }
        x.sheet(0, 1, 40);
        due("packs", x.packs(0, 1), 8);
        for (int i = 8; i < 40; i++) {
            x.cell(0, i, x.read(0, i - 8));
        }
        for (int i = 0; i < 20; i++) {
            due("unpacks", x.unpacks(0, 1, 200), 200);
        }
        due("tally", x.tally(1, 3), 99);
        due("size", x.size(1), 40);
        return x;
    }

    private static void dueAll(EachIsHit x, int f, int... sets) {
        due("size", x.size(f), sets.length);
        for (int k = 0; k < sets.length; k++) {
            due("at " + k, x.at(f, k), sets[k]);
        }
    }

    /** What is listed is just this: k -1 tells how many, each other k out of 0 .. how many - 1 is PLACE. */
    private static void dueList(String name, EachIsHit x, Listed list, int... sets) {
        due(name + " how many", list.at(x, -1), sets.length);
        for (int k = 0; k < sets.length; k++) {
            due(name + " at " + k, list.at(x, k), sets[k]);
        }
        due(name + " behind the last", list.at(x, sets.length), PLACE);
        due(name + " at -2", list.at(x, -2), PLACE);
        due(name + " at the least", list.at(x, Integer.MIN_VALUE), PLACE);
        due(name + " at the greatest", list.at(x, Integer.MAX_VALUE), PLACE);
    }

    private static void dueDual(String name, EachIsHit x, int... sets) {
        dueList(name, x, (y, k) -> y.dual(0, k), sets);
    }

    private static void dueKeys(String name, EachIsHit x, int... sets) {
        dueList(name, x, (y, k) -> y.keys(0, k), sets);
    }

    private static void dueUp(String name, EachIsHit x, int f, int t, int... sets) {
        dueList(name + " up at " + t, x, (y, k) -> y.border(f, t, 0, k), sets);
    }

    private static void dueDown(String name, EachIsHit x, int f, int t, int... sets) {
        dueList(name + " down at " + t, x, (y, k) -> y.border(f, t, 1, k), sets);
    }

    private static int[] singles() {
        int[] sets = new int[12];
        for (int p = 0; p < 12; p++) {
            sets[p] = 1 << p;
        }
        return sets;
    }

    // ---- 12, 13: often, top

    @Says("BAD.")
    private static void promise12FamilyIs0To3() {
        Still.bounds("family", 0, 3, (x, v) -> x.often(v, 3));
    }

    @Says({"How many SETS of a FAMILY have a POINT.", "BAD."})
    private static void promise12PointIs0To11() {
        Still.bounds("point", 0, 11, (x, v) -> x.often(1, v));
        Still.is("point 0", x -> x.often(1, 0), 3);
        Still.is("point 11", x -> x.often(1, 11), 1);
        Still.is("point 4 of another one", x -> x.often(0, 4), 1);
    }

    @Says("How many SETS of a FAMILY have a POINT.")
    private static void promise12From0To40() {
        Still.after(x -> { }, "of none", x -> x.often(0, 0), 0);
        EachIsHit x = new EachIsHit();
        x.tell(0, 0);
        due("of the empty set", x.often(0, 0), 0);
        for (int i = 0; i < 39; i++) {
            x.tell(1, 2048 + i);
        }
        due("39", x.often(1, 11), 39);
        x.tell(1, 4095);
        due("40", x.often(1, 11), 40);
        x.tell(1, 4095);
        due("sets, not tallies", x.often(1, 11), 40);
        due("tallies", x.often(1, 10), 1);
    }

    @Says("BAD;")
    private static void promise13FamilyIs0To3() {
        Still.bounds("family", 0, 3, (x, v) -> x.top(v));
    }

    @Says("NONE: it is in none.")
    private static void promise13NoneWhereItIsInNone() {
        Still.after(x -> { }, "an empty family", x -> x.top(0), NONE);
        Still.after(x -> x.tell(0, 0), "the empty set alone", x -> x.top(0), NONE);
        Still.after(x -> {
            x.tell(0, 0);
            x.tell(0, 2048);
        }, "the empty set and another one", x -> x.top(0), 11);
    }

    @Says({"The POINT that is in most,", "of like ones the least."})
    private static void promise13OfLikeOnesTheLeast() {
        due("all points of one set", with(4095).top(0), 0);
        due("all points, one to each", withSingles().top(0), 0);
        due("the last two", with(3072).top(0), 10);
        due("first and last", with(2048, 1).top(0), 0);
        due("the last is in one more", with(2048, 1, 2050).top(0), 11);
        due("tallies don't matter", with(2, 2, 2, 1).top(0), 0);
    }

    // ---- 14, 15: isSimple, lean

    @Says("BAD.")
    private static void promise14FamilyIs0To3() {
        Still.bounds("family", 0, 3, (x, v) -> x.isSimple(v));
    }

    @Says({"1, 0.", "SIMPLE is a FAMILY, if it holds no SET that is a part of another one of it."})
    private static void promise14NoneOrOneIsSimple() {
        Still.after(x -> { }, "none", x -> x.isSimple(0), 1);
        Still.after(x -> x.tell(0, 0), "the empty set", x -> x.isSimple(0), 1);
        Still.after(x -> x.tell(0, 4095), "all points", x -> x.isSimple(0), 1);
        due("one set twice is no other one", with(5, 5).isSimple(0), 1);
    }

    @Says({"1, 0.", "SIMPLE is a FAMILY, if it holds no SET that is a part of another one of it."})
    private static void promise14PartAheadOrBehind() {
        due("the part ahead", with(1, 3).isSimple(0), 0);
        due("the part behind", with(3, 1).isSimple(0), 0);
        due("none is a part", with(3, 5).isSimple(0), 1);
        due("the empty set ahead", with(0, 2048).isSimple(0), 0);
        due("the empty set behind", with(2048, 0).isSimple(0), 0);
        due("a part of all points", with(4095, 2048).isSimple(0), 0);
    }

    @Says("1, 0.")
    private static void promise14OfForty() {
        EachIsHit x = new EachIsHit();
        x.make(0, 0, 9, 2);
        x.tell(0, 512);
        x.tell(0, 1024);
        x.tell(0, 2048);
        due("39", x.isSimple(0), 1);
        x.tell(0, 256);
        due("the 40th is a part", x.isSimple(0), 0);
    }

    @Says("BAD.")
    private static void promise15FamilyIs0To3() {
        Still.bounds("family", 0, 3, (x, v) -> x.lean(v));
    }

    @Says("how many.")
    private static void promise15NoneGo() {
        due("of none", new EachIsHit().lean(0), 0);
        due("the empty set alone", with(0).lean(0), 0);
        EachIsHit x = with(3, 5, 3);
        due("no part", x.lean(0), 0);
        dueAll(x, 0, 3, 5);
        due("tally", x.tally(0, 3), 2);
    }

    @Says({"SETS that have another SET of the FAMILY as a part go", "how many."})
    private static void promise15AllGoButTheEmptyOne() {
        EachIsHit x = new EachIsHit();
        for (int i = 1; i < 40; i++) {
            x.tell(0, 100 + i);
        }
        x.tell(0, 0);
        x.tell(0, 0);
        due("39 of 40", x.lean(0), 39);
        dueAll(x, 0, 0);
        due("tally", x.tally(0, 0), 2);
    }

    @Says({"SETS that have another SET of the FAMILY as a part go", "how many."})
    private static void promise15OfAChainTheLeastStays() {
        EachIsHit x = with(4095, 2047, 1023, 511, 255, 127, 63, 31, 15, 7, 3, 1);
        due("eleven", x.lean(0), 11);
        dueAll(x, 0, 1);
    }

    @Says("(the others keep TALLIES, order):")
    private static void promise15OthersKeepTalliesAndOrder() {
        EachIsHit x = with(48, 7, 3, 1024, 51, 1024, 48, 48);
        due("two", x.lean(0), 2);
        dueAll(x, 0, 48, 3, 1024);
        due("tally", x.tally(0, 48), 3);
        due("tally", x.tally(0, 3), 1);
        due("tally", x.tally(0, 1024), 2);
        due("gone", x.tally(0, 7), 0);
    }

    @Says("wipe(), copy(), lean(), into(), make(), unpacks(), back() forget them all,")
    private static void promise15ForgetsEvenIfNoneGo() {
        EachIsHit x = with(3);
        due("lean", x.lean(1), 0);
        due("undo", x.undo(), NONE);
    }

    // ---- 16, 17: test, counted

    @Says("BAD.")
    private static void promise16FamilyIs0To3() {
        Still.bounds("family", 0, 3, (x, v) -> x.test(v, 0, 5));
    }

    @Says("BAD.")
    private static void promise16TestIs0To5() {
        Still.bounds("test", 0, 5, (x, v) -> x.test(0, v, 5));
    }

    @Says("BAD.")
    private static void promise16SetIs0To4095() {
        for (int test = 0; test < 6; test++) {
            int t = test;
            Still.bounds("set by test " + t, 0, 4095, (x, v) -> x.test(0, t, v));
        }
    }

    private static void dueTests(String name, EachIsHit x, int set, int... does) {
        for (int test = 0; test < 6; test++) {
            due(name + ", test " + test + " of " + set, x.test(0, test, set), does[test]);
        }
    }

    @Says({"Whether a SET does it: 1, 0.", "(so each does, if it holds none;"})
    private static void promise16ByAnEmptyFamily() {
        EachIsHit x = new EachIsHit();
        dueTests("none", x, 0, 1, 1, 1, 0, 1, 0);
        dueTests("none", x, 1, 1, 0, 1, 0, 1, 0);
        dueTests("none", x, 4095, 1, 0, 1, 0, 1, 0);
    }

    @Says({"Whether a SET does it: 1, 0.", "none does, if it holds the empty one)."})
    private static void promise16ByTheEmptySet() {
        EachIsHit x = with(0);
        dueTests("the empty set", x, 0, 0, 0, 0, 1, 0, 1);
        dueTests("the empty set", x, 1, 0, 0, 0, 0, 0, 0);
        dueTests("the empty set", x, 4095, 0, 0, 0, 0, 0, 0);
    }

    @Says("none does, if it holds the empty one).")
    private static void promise16ByTheEmptySetAndAnother() {
        EachIsHit x = with(3, 0);
        dueTests("two", x, 0, 0, 0, 0, 1, 0, 1);
        dueTests("two", x, 1, 0, 0, 0, 1, 0, 0);
        dueTests("two", x, 3, 0, 0, 0, 1, 0, 1);
        dueTests("two", x, 7, 0, 0, 0, 0, 0, 0);
    }

    @Says("Whether a SET does it: 1, 0.")
    private static void promise16ByAllPoints() {
        EachIsHit x = with(4095);
        dueTests("all points", x, 0, 0, 0, 1, 1, 0, 0);
        dueTests("all points", x, 1, 1, 1, 1, 1, 1, 0);
        dueTests("all points", x, 2048, 1, 1, 1, 1, 1, 0);
        dueTests("all points", x, 3, 1, 0, 1, 1, 0, 0);
        dueTests("all points", x, 2047, 1, 0, 1, 1, 1, 0);
        dueTests("all points", x, 4095, 1, 0, 0, 1, 0, 1);
    }

    @Says("Whether a SET does it: 1, 0.")
    private static void promise16ByLowAndHighPoints() {
        // Points 5 and 6 alone, and both: where one half of a number ends and the other one begins.
        EachIsHit x = with(32, 64);
        dueTests("5, 6", x, 32, 0, 0, 0, 1, 0, 1);
        dueTests("5, 6", x, 64, 0, 0, 0, 1, 0, 1);
        dueTests("5, 6", x, 96, 1, 1, 0, 0, 1, 0);
        dueTests("5, 6", x, 2145, 1, 0, 0, 0, 1, 0);
        dueTests("5, 6", x, 2064, 0, 0, 1, 0, 0, 0);
    }

    @Says("BAD.")
    private static void promise17FamilyIs0To3() {
        Still.bounds("family", 0, 3, (x, v) -> x.counted(v, 0, 0, 5));
    }

    @Says("BAD.")
    private static void promise17TestIs0To5() {
        Still.bounds("test", 0, 5, (x, v) -> x.counted(0, v, 0, 5));
    }

    @Says("BAD.")
    private static void promise17NotIs0To1() {
        Still.bounds("not", 0, 1, (x, v) -> x.counted(0, 0, v, 5));
    }

    @Says({"How many SETS of n (0 .. 12) POINTS do a TEST (not 0), don't (1).", "BAD."})
    private static void promise17PointsAre0To12() {
        Still.bounds("n", 0, 12, (x, v) -> x.counted(0, 0, 0, v));
        EachIsHit x = with(4095);
        due("0 points hit", x.counted(0, 0, 0, 0), 0);
        due("0 points don't", x.counted(0, 0, 1, 0), 1);
        due("1 point hits", x.counted(0, 0, 0, 1), 12);
        due("1 point is least", x.counted(0, 1, 0, 1), 12);
        due("12 points hit", x.counted(0, 0, 0, 12), 1);
        due("12 points are least", x.counted(0, 1, 0, 12), 0);
        due("12 points have one as a part", x.counted(0, 2, 1, 12), 1);
        due("11 points have none as a part", x.counted(0, 2, 0, 11), 12);
        due("12 points are one of it", x.counted(0, 5, 0, 12), 1);
        for (int n = 0; n <= 12; n++) {
            due("odd " + n, x.counted(0, 4, 0, n), n % 2 == 1 ? CHOICES[n] : 0);
            due("parts " + n, x.counted(0, 3, 0, n), CHOICES[n]);
        }
    }

    @Says("How many SETS of n (0 .. 12) POINTS do a TEST (not 0), don't (1).")
    private static void promise17ByAnEmptyFamilyOrTheEmptySet() {
        EachIsHit none = new EachIsHit();
        EachIsHit empty = with(0);
        for (int n = 0; n <= 12; n++) {
            int first = n == 0 ? 1 : 0;
            int[] byNone = {CHOICES[n], first, CHOICES[n], 0, CHOICES[n], 0};
            int[] byEmpty = {0, 0, 0, first, 0, first};
            for (int test = 0; test < 6; test++) {
                due("by none", none.counted(0, test, 0, n), byNone[test]);
                due("not by none", none.counted(0, test, 1, n), CHOICES[n] - byNone[test]);
                due("by the empty set", empty.counted(0, test, 0, n), byEmpty[test]);
                due("not by the empty set", empty.counted(0, test, 1, n), CHOICES[n] - byEmpty[test]);
            }
        }
    }

    // ---- 18, 19, 20: dual, into, verdict

    @Says("BAD: f;")
    private static void promise18FamilyIs0To3() {
        Still.bounds("family", 0, 3, (x, v) -> x.dual(v, -1));
    }

    @Says({"k -1: how many there are.", "PLACE: another k."})
    private static void promise18PlaceAtAnotherK() {
        Still.is("how many", x -> x.dual(0, -1), 4);
        Still.is("-2", x -> x.dual(0, -2), PLACE);
        Still.is("first", x -> x.dual(0, 0), 10);
        Still.is("second", x -> x.dual(0, 1), 13);
        Still.is("last", x -> x.dual(0, 3), 22);
        Still.is("behind", x -> x.dual(0, 4), PLACE);
        Still.is("least", x -> x.dual(0, Integer.MIN_VALUE), PLACE);
        Still.is("greatest", x -> x.dual(0, Integer.MAX_VALUE), PLACE);
        Still.is("beyond all sets", x -> x.dual(0, 4096), PLACE);
    }

    @Says("SET k of DUAL;")
    private static void promise18OfNoneAndOfTheEmptySet() {
        dueDual("of none", new EachIsHit(), 0);
        dueDual("of the empty set", with(0));
        dueDual("of the empty set and others", with(3, 0, 4095));
    }

    @Says({"SET k of DUAL;", "k -1: how many there are."})
    private static void promise18OfAllPoints() {
        dueDual("of one set", with(4095), singles());
        dueDual("of each alone", withSingles(), 4095);
        dueDual("of one alone", with(2048), 2048);
        dueDual("of the first alone", with(1), 1);
    }

    @Says({"SET k of DUAL;", "DUAL of a FAMILY: all LEAST SETS, in order as numbers."})
    private static void promise18InOrderAsNumbers() {
        dueDual("high ones told first", with(3072, 3), 1025, 1026, 2049, 2050);
        dueDual("a small set behind many", with(33, 34, 36), 7, 32);
    }

    @Says("of several the one that stands first with it;")
    private static void promise18BadAheadOfPlace() {
        Still.bad("no family, no place", x -> x.dual(4, -2));
        Still.bad("no family, no place", x -> x.dual(-1, 4096));
    }

    @Says("BAD;")
    private static void promise19FamiliesAre0To3() {
        Still.bounds("from", 0, 3, (x, v) -> x.into(v, 1));
        Still.bounds("to", 0, 3, (x, v) -> x.into(1, v));
    }

    // Sets of 3, 5 and 6 points, of which two pairs share one: 5 and 2 with the shared ones, 2 * 4 * 4 without.
    private static final int[] DUAL_39 = {0x142, 0xC34, 0x399};
    // Sets of 2, 4 and 5 points that share none: 2 * 4 * 5.
    private static final int[] DUAL_40 = {0x003, 0x03C, 0x7C0};
    // The same with one point more that all share.
    private static final int[] DUAL_41 = {0x803, 0x83C, 0xFC0};

    @Says({"FULL: they are more than 40.", "BECOMES DUAL of f, in order, each with TALLY 1: how many."})
    private static void promise19FullAbove40() {
        EachIsHit x = with(DUAL_39);
        due("39", x.into(0, 1), 39);
        due("size", x.size(1), 39);
        x = with(DUAL_40);
        due("40", x.into(0, 1), 40);
        due("size", x.size(1), 40);
        due("first", x.at(1, 0), 69);
        due("last", x.at(1, 39), 1024 + 32 + 2);
        due("full then", x.tell(1, 1), FULL);
        x = with(DUAL_41);
        due("41", x.dual(0, -1), 41);
        due("41", x.into(0, 1), FULL);
        due("size", x.size(1), 0);
    }

    @Says({"FULL: they are more than 40.", "where they are not refused"})
    private static void promise19FullChangesNothing() {
        Still.afterMore(x -> {
            x.wipe(0);
            for (int set : DUAL_41) {
                x.tell(0, set);
            }
        }, "41", x -> x.into(0, 1), FULL);
        Still.after(x -> {
            for (int set : DUAL_41) {
                x.tell(0, set);
            }
        }, "41 into itself", x -> x.into(0, 0), FULL);
    }

    @Says("FAMILY g (it may be f)")
    private static void promise19ItMayBeItself() {
        EachIsHit x = with(DUAL_40);
        due("40", x.into(0, 0), 40);
        due("size", x.size(0), 40);
        due("back again", x.into(0, 0), 3);
        dueAll(x, 0, 0x003, 0x03C, 0x7C0);
    }

    @Says("BECOMES DUAL of f, in order, each with TALLY 1: how many.")
    private static void promise19OfNoneAndOfTheEmptySet() {
        EachIsHit x = new EachIsHit();
        x.tell(1, 5);
        x.tell(1, 5);
        due("of none", x.into(0, 1), 1);
        dueAll(x, 1, 0);
        due("of the empty set", x.into(1, 1), 0);
        due("size", x.size(1), 0);
    }

    @Says("BECOMES DUAL of f, in order, each with TALLY 1: how many.")
    private static void promise19EachWithTally1() {
        EachIsHit x = with(1);
        x.tell(0, 1);
        x.tell(1, 1);
        x.tell(1, 1);
        due("into", x.into(0, 1), 1);
        due("tally", x.tally(1, 1), 1);
        due("the other one", x.tally(0, 1), 2);
    }

    @Says("wipe(), copy(), lean(), into(), make(), unpacks(), back() forget them all,")
    private static void promise19ForgetsAllActs() {
        EachIsHit x = with(1);
        due("into", x.into(0, 0), 1);
        due("undo", x.undo(), NONE);
    }

    @Says("of several the one that stands first with it;")
    private static void promise19BadAheadOfFull() {
        Still.after(x -> {
            for (int set : DUAL_41) {
                x.tell(0, set);
            }
        }, "no family to hold 41", x -> x.into(0, 4), BAD);
    }

    @Says("BAD.")
    private static void promise20FamiliesAre0To3() {
        Still.bounds("by", 0, 3, (x, v) -> x.verdict(v, 1, 0));
        Still.bounds("on", 0, 3, (x, v) -> x.verdict(1, v, 0));
        Still.bounds("by, witness", 0, 3, (x, v) -> x.verdict(v, 1, 1));
    }

    @Says("BAD.")
    private static void promise20WhatIs0To1() {
        Still.bounds("what", 0, 1, (x, v) -> x.verdict(0, 1, v));
    }

    /** Family 0 is f, family 1 is g. */
    private static void dueVerdict(int[] f, int[] g, int verdict, int witness) {
        EachIsHit x = with(f);
        for (int set : g) {
            x.tell(1, set);
        }
        due("verdict", x.verdict(0, 1, 0), verdict);
        due("witness", x.verdict(0, 1, 1), witness);
    }

    @Says({"VERDICT on g, by f (what 0),", "WITNESS (1; NONE for 0)."})
    private static void promise20VerdictsInTheirOrder() {
        int[] f = {3};
        dueVerdict(f, new int[] {1, 2}, 0, NONE);
        dueVerdict(f, new int[] {2, 1}, 0, NONE);
        dueVerdict(f, new int[] {}, 3, 1);
        dueVerdict(f, new int[] {1}, 3, 2);
        dueVerdict(f, new int[] {2}, 3, 1);
        dueVerdict(f, new int[] {3}, 2, 3);
        dueVerdict(f, new int[] {1, 2, 7, 3}, 2, 7);
        dueVerdict(f, new int[] {1, 2, 3, 7}, 2, 3);
        dueVerdict(f, new int[] {3, 4}, 1, 4);
        dueVerdict(f, new int[] {3, 8, 4, 0}, 1, 8);
        dueVerdict(f, new int[] {1, 2, 0}, 1, 0);
    }

    @Says({"VERDICT on g, by f (what 0),", "WITNESS (1; NONE for 0)."})
    private static void promise20ByNoneAndByTheEmptySet() {
        dueVerdict(new int[] {}, new int[] {}, 3, 0);
        dueVerdict(new int[] {}, new int[] {0}, 0, NONE);
        dueVerdict(new int[] {}, new int[] {5}, 2, 5);
        dueVerdict(new int[] {}, new int[] {0, 4095}, 2, 4095);
        dueVerdict(new int[] {0}, new int[] {}, 0, NONE);
        dueVerdict(new int[] {0}, new int[] {0}, 1, 0);
        dueVerdict(new int[] {0, 1}, new int[] {4095}, 1, 4095);
    }

    @Says("WITNESS (1; NONE for 0).")
    private static void promise20WitnessOfAllPoints() {
        EachIsHit x = withSingles();
        due("it isn't held", x.verdict(0, 1, 0), 3);
        due("which", x.verdict(0, 1, 1), 4095);
        x.tell(1, 4095);
        due("it is", x.verdict(0, 1, 0), 0);
        x.tell(1, 4094);
        due("one point less", x.verdict(0, 1, 0), 1);
        due("which", x.verdict(0, 1, 1), 4094);
    }

    @Says("VERDICT on g, by f (what 0),")
    private static void promise20OnItself() {
        int[][] families = {{}, {0}, {1}, {3}, {3, 5, 6}, {3, 12}};
        int[] verdicts = {3, 1, 0, 2, 0, 1};
        int[] witnesses = {0, 0, NONE, 3, NONE, 3};
        for (int i = 0; i < families.length; i++) {
            EachIsHit x = with(families[i]);
            due("verdict", x.verdict(0, 0, 0), verdicts[i]);
            due("witness", x.verdict(0, 0, 1), witnesses[i]);
        }
    }

    // ---- 21, 22: tree, node

    @Says("BAD.")
    private static void promise21FamilyIs0To3() {
        Still.bounds("family", 0, 3, (x, v) -> x.tree(v, 0));
    }

    @Says("BAD.")
    private static void promise21WhatIs0To2() {
        Still.bounds("what", 0, 2, (x, v) -> x.tree(0, v));
    }

    /** The tree of family 0: its nodes as rows of point, sets, depth, points had. */
    private static void dueTree(EachIsHit x, int depth, int bare, int[]... nodes) {
        due("nodes", x.tree(0, 0), nodes.length);
        due("depth", x.tree(0, 1), depth);
        due("leaves without sets", x.tree(0, 2), bare);
        for (int i = 0; i < nodes.length; i++) {
            for (int what = 0; what < 4; what++) {
                due("node " + i + " what " + what, x.node(0, i, what), nodes[i][what]);
            }
        }
        due("behind the last", x.node(0, nodes.length, 0), PLACE);
    }

    @Says({"A NODE that has no SETS,", "2 how many LEAVES have no SETS."})
    private static void promise21OfNone() {
        dueTree(new EachIsHit(), 0, 1, new int[] {NONE, 0, 0, 0});
    }

    @Says({"or the empty one, is a LEAF;", "2 how many LEAVES have no SETS."})
    private static void promise21OfTheEmptySet() {
        dueTree(with(0), 0, 0, new int[] {NONE, 1, 0, 0});
        dueTree(with(5, 0, 4095), 0, 0, new int[] {NONE, 1, 0, 0});
    }

    @Says({"THE TREE: what 0 how many NODES,", "1 the greatest depth,", "2 how many LEAVES have no SETS."})
    private static void promise21OfOnePoint() {
        dueTree(with(2048), 1, 1, new int[] {11, 1, 0, 0}, new int[] {NONE, 0, 1, 2048}, new int[] {NONE, 1, 1, 0});
    }

    @Says("else it BRANCHES at the POINT that is in most of its SETS, of like ones the least:")
    private static void promise21OfLikePointsTheLeast() {
        dueTree(with(3), 2, 2, new int[] {0, 1, 0, 0}, new int[] {NONE, 0, 1, 1}, new int[] {1, 1, 1, 0},
            new int[] {NONE, 0, 2, 2}, new int[] {NONE, 1, 2, 0});
    }

    @Says("else it BRANCHES at the POINT that is in most of its SETS, of like ones the least:")
    private static void promise21AtThePointThatIsInMost() {
        dueTree(with(2049, 2050), 3, 2, new int[] {11, 2, 0, 0}, new int[] {NONE, 0, 1, 2048}, new int[] {0, 2, 1, 0},
            new int[] {1, 1, 2, 1}, new int[] {NONE, 0, 3, 3}, new int[] {NONE, 1, 3, 1}, new int[] {NONE, 1, 2, 0});
    }

    private static final int[][] THREE = {
        {0, 3, 0, 0}, {1, 1, 1, 1}, {NONE, 0, 2, 3}, {3, 1, 2, 1}, {NONE, 0, 3, 9}, {NONE, 1, 3, 1}, {1, 2, 1, 0},
        {2, 1, 2, 2}, {NONE, 0, 3, 6}, {NONE, 1, 3, 2}, {NONE, 1, 2, 0},
    };

    @Says("then the NODE of all of its SETS, that POINT taken from each, without those that have another one of them as a part then")
    private static void promise21SetsWithAnotherAsPartGo() {
        // In node 6 the points 0, 1 have become point 1 alone, so that points 1, 3 go.
        dueTree(with(3, 5, 10), 3, 3, THREE);
    }

    @Says("The first one: SETS of the FAMILY without those that have another one of it as a part, depth 0, none had.")
    private static void promise21FirstNodeIsWithoutWholes() {
        dueTree(with(4095, 3, 7, 5, 10, 14), 3, 3, THREE);
        dueTree(with(10, 5, 3, 3, 3), 3, 3, THREE);
    }

    @Says("behind it comes the NODE of those of its SETS that haven't that POINT, which is had then, too, and all that comes behind that one;")
    private static void promise21SetsWithoutThePointStayInBoth() {
        // Points 3, 4 come first, have nothing in common with the others, and so stay in nodes 1 and 6.
        dueTree(with(24, 3, 5), 5, 4, new int[] {0, 3, 0, 0}, new int[] {3, 1, 1, 1}, new int[] {NONE, 0, 2, 9},
            new int[] {4, 1, 2, 1}, new int[] {NONE, 0, 3, 17}, new int[] {NONE, 1, 3, 1}, new int[] {1, 3, 1, 0},
            new int[] {2, 2, 2, 2}, new int[] {3, 1, 3, 6}, new int[] {NONE, 0, 4, 14}, new int[] {4, 1, 4, 6},
            new int[] {NONE, 0, 5, 22}, new int[] {NONE, 1, 5, 6}, new int[] {NONE, 1, 3, 2}, new int[] {NONE, 1, 2, 0});
    }

    @Says({"1 the greatest depth,", "2 how many LEAVES have no SETS."})
    private static void promise21OfAnotherOneBehindADeepOne() {
        EachIsHit x = with(4095);
        x.tell(1, 1);
        due("depth", x.tree(0, 1), 12);
        due("depth of the other one", x.tree(1, 1), 1);
        due("leaves of the other one", x.tree(1, 2), 1);
        due("nodes of the other one", x.tree(1, 0), 3);
        due("behind its last", x.node(1, 3, 0), PLACE);
        due("depth of none", x.tree(2, 1), 0);
    }

    @Says({
        "THE TREE: what 0 how many NODES,",
        "1 the greatest depth,",
        "Depth is 1 more in both.",
        "with what is had as it is, and all behind that.",
    })
    private static void promise21TwelveDeep() {
        int[][] nodes = new int[25][];
        for (int p = 0; p < 12; p++) {
            nodes[2 * p] = new int[] {p, 1, p, 0};
            nodes[2 * p + 1] = new int[] {NONE, 0, p + 1, 1 << p};
        }
        nodes[24] = new int[] {NONE, 1, 12, 0};
        dueTree(with(4095), 12, 12, nodes);
    }

    @Says({
        "THE TREE: what 0 how many NODES,",
        "1 the greatest depth,",
        "Depth is 1 more in both.",
        "behind it comes the NODE of those of its SETS that haven't that POINT, which is had then, too, and all that comes behind that one;",
    })
    private static void promise21TwelveDeepOfOnePointEach() {
        int[][] nodes = new int[25][];
        for (int p = 0; p < 12; p++) {
            nodes[p] = new int[] {p, 12 - p, p, (1 << p) - 1};
            nodes[24 - p] = new int[] {NONE, 1, p + 1, (1 << p) - 1};
        }
        nodes[12] = new int[] {NONE, 0, 12, 4095};
        dueTree(withSingles(), 12, 1, nodes);
    }

    @Says("2 how many LEAVES have no SETS.")
    private static void promise21OfForty() {
        EachIsHit x = heavy();
        // Points 0 .. 3 must be had, and all but one of 4 .. 8.
        due("leaves without sets", x.tree(1, 2), x.dual(1, -1));
        due("least sets", x.dual(1, -1), 5);
        due("sets of the first node", x.node(1, 0, 1), 4 + 10);
    }

    @Says("BAD: f, what;")
    private static void promise22FamilyIs0To3() {
        Still.bounds("family", 0, 3, (x, v) -> x.node(v, 0, 0));
    }

    @Says("BAD: f, what;")
    private static void promise22WhatIs0To3() {
        Still.bounds("what", 0, 3, (x, v) -> x.node(0, 0, v));
    }

    @Says("PLACE: there is none such.")
    private static void promise22PlaceWhereThereIsNone() {
        for (int what = 0; what < 4; what++) {
            int w = what;
            Still.after(x -> { }, "the only one", x -> x.node(0, 0, w), w == 0 ? NONE : 0);
            Still.after(x -> { }, "behind the only one", x -> x.node(0, 1, w), PLACE);
            Still.is("-1", x -> x.node(0, -1, w), PLACE);
            Still.is("least", x -> x.node(0, Integer.MIN_VALUE, w), PLACE);
            Still.is("greatest", x -> x.node(0, Integer.MAX_VALUE, w), PLACE);
            EachIsHit x = with(3, 5, 10);
            due("the last", x.node(0, 10, w), THREE[10][w]);
            due("behind the last", x.node(0, 11, w), PLACE);
        }
    }

    @Says("of several the one that stands first with it;")
    private static void promise22BadAheadOfPlace() {
        Still.bad("no family, no node", x -> x.node(4, -1, 0));
        Still.bad("no such what, no node", x -> x.node(0, -1, 4));
        Still.bad("no such what, no node", x -> x.node(0, 9999, -1));
    }

    // ---- 23: keys

    @Says("BAD: f;")
    private static void promise23FamilyIs0To3() {
        Still.bounds("family", 0, 3, (x, v) -> x.keys(v, -1));
    }

    @Says("(the empty SET is a KEY, if it holds one or none).")
    private static void promise23EmptyKeyOfOneOrNone() {
        dueKeys("none", new EachIsHit(), 0);
        dueKeys("one", with(9), 0);
        dueKeys("one, often", with(9, 9, 9), 0);
        dueKeys("the empty set", with(0), 0);
        dueKeys("two", with(9, 8), 1);
    }

    @Says("KEY k, in order as numbers;")
    private static void promise23OfTwo() {
        dueKeys("the empty set and all points", with(0, 4095), singles());
        dueKeys("apart by the last point", with(5, 2053), 2048);
    }

    @Says({"KEY k, in order as numbers;", "k -1: how many there are."})
    private static void promise23AllPoints() {
        int[] allButOne = new int[12];
        for (int p = 0; p < 12; p++) {
            allButOne[p] = 4095 - (2048 >> p);
        }
        EachIsHit x = withSingles();
        dueKeys("of twelve", x, allButOne);
        x.tell(0, 0);
        dueKeys("with the empty set", x, 4095);
    }

    @Says("KEY k, in order as numbers;")
    private static void promise23OfForty() {
        EachIsHit x = new EachIsHit();
        for (int i = 0; i < 40; i++) {
            x.tell(0, i);
        }
        dueKeys("0 .. 39", x, 63);
        for (int i = 32; i < 40; i++) {
            x.take(0, i);
        }
        dueKeys("0 .. 31", x, 31);
    }

    @Says({"k -1: how many there are.", "PLACE: another k."})
    private static void promise23PlaceAtAnotherK() {
        Still.is("how many", x -> x.keys(3, -1), 6);
        Still.is("-2", x -> x.keys(3, -2), PLACE);
        Still.is("first", x -> x.keys(3, 0), 32);
        Still.is("last", x -> x.keys(3, 5), 2048);
        Still.is("behind", x -> x.keys(3, 6), PLACE);
    }

    @Says("of several the one that stands first with it;")
    private static void promise23BadAheadOfPlace() {
        Still.bad("no family, no place", x -> x.keys(4, -2));
        Still.bad("no family, no place", x -> x.keys(-1, 4096));
    }

    // ---- 24, 25: support, border

    @Says("BAD.")
    private static void promise24FamilyIs0To3() {
        Still.bounds("family", 0, 3, (x, v) -> x.support(v, 3));
    }

    @Says("BAD.")
    private static void promise24SetIs0To4095() {
        Still.bounds("set", 0, 4095, (x, v) -> x.support(1, v));
        Still.is("the empty set", x -> x.support(0, 0), 5);
        Still.is("all points", x -> x.support(1, 4095), 1);
        Still.is("all points", x -> x.support(0, 4095), 0);
    }

    @Says({"SUPPORT.", "SUPPORT of a SET: TALLIES of all SETS of a FAMILY of which it is a part, together."})
    private static void promise24From0To3960() {
        Still.after(x -> { }, "of none", x -> x.support(0, 0), 0);
        EachIsHit x = heavy();
        due("all", x.support(1, 0), 3960);
        due("nine of them", x.support(1, 1), 891);
        due("eight of them", x.support(1, 16), 792);
        due("one of them", x.support(1, 3), 99);
        due("none of them", x.support(1, 7), 0);
    }

    @Says("BAD: f, t, side;")
    private static void promise25FamilyIs0To3() {
        Still.bounds("family", 0, 3, (x, v) -> x.border(v, 1, 0, -1));
    }

    @Says({"at t (0 .. 4000);", "BAD: f, t, side;"})
    private static void promise25TIs0To4000() {
        Still.bounds("t, up", 0, 4000, (x, v) -> x.border(0, v, 0, -1));
        Still.bounds("t, down", 0, 4000, (x, v) -> x.border(0, v, 1, -1));
    }

    @Says("BAD: f, t, side;")
    private static void promise25SideIs0To1() {
        Still.bounds("side", 0, 1, (x, v) -> x.border(0, 1, v, -1));
    }

    @Says({"SET k of UP (side 0),", "DOWN (1)", "at t (0 .. 4000);"})
    private static void promise25AllAreCommonAt0() {
        EachIsHit x = new EachIsHit();
        dueUp("none", x, 0, 0, 4095);
        dueDown("none", x, 0, 0);
        x = heavy();
        dueUp("forty", x, 1, 0, 4095);
        dueDown("forty", x, 1, 0);
    }

    @Says({"SET k of UP (side 0),", "DOWN (1)", "at t (0 .. 4000);"})
    private static void promise25NoneAreCommonAboveAll() {
        EachIsHit x = new EachIsHit();
        dueUp("none", x, 0, 1);
        dueDown("none", x, 0, 1, 0);
        dueUp("none", x, 0, 4000);
        dueDown("none", x, 0, 4000, 0);
        x = heavy();
        dueUp("forty", x, 1, 3961);
        dueDown("forty", x, 1, 3961, 0);
        dueUp("forty", x, 1, 4000);
        dueDown("forty", x, 1, 4000, 0);
    }

    @Says("It is COMMON at t, if that is t or more.")
    private static void promise25OnlyTheEmptySetIsCommonAtAll() {
        EachIsHit x = heavy();
        dueUp("forty", x, 1, 3960, 0);
        dueDown("forty", x, 1, 3960, singles());
    }

    @Says({"It is COMMON at t, if that is t or more.", "k -1: how many there are."})
    private static void promise25AtJustAsOften() {
        EachIsHit x = heavy();
        dueUp("one less", x, 1, 890, 1, 2, 4, 8);
        dueUp("just", x, 1, 891, 1, 2, 4, 8);
        dueDown("just", x, 1, 891, 3, 5, 6, 9, 10, 12, 16, 32, 64, 128, 256, 512, 1024, 2048);
        dueUp("one more", x, 1, 892, 0);
        dueDown("one more", x, 1, 892, singles());
    }

    @Says({"SET k of UP (side 0),", "DOWN (1)", "k -1: how many there are.", "PLACE: another k."})
    private static void promise25OfTheEmptySetAndOfAllPoints() {
        EachIsHit x = with(0);
        dueUp("the empty set", x, 0, 1, 0);
        dueDown("the empty set", x, 0, 1, singles());
        dueUp("the empty set", x, 0, 2);
        dueDown("the empty set", x, 0, 2, 0);
        x = with(4095);
        dueUp("all points", x, 0, 1, 4095);
        dueDown("all points", x, 0, 1);
        dueUp("all points", x, 0, 2);
        dueDown("all points", x, 0, 2, 0);
    }

    @Says("of several the one that stands first with it;")
    private static void promise25BadAheadOfPlace() {
        Still.bad("family", x -> x.border(4, 0, 0, -2));
        Still.bad("t below", x -> x.border(0, -1, 0, -2));
        Still.bad("t above", x -> x.border(0, 4001, 1, 4096));
        Still.bad("side", x -> x.border(0, 0, 2, -2));
    }

    @Says("PLACE: another k.")
    private static void promise25PlaceChangesNothing() {
        Still.is("up at -2", x -> x.border(0, 1, 0, -2), PLACE);
        Still.is("up behind the last", x -> x.border(0, 0, 0, 1), PLACE);
        Still.is("down of none", x -> x.border(0, 0, 1, 0), PLACE);
    }

    // ---- 26: make

    @Says("BAD;")
    private static void promise26FamilyIs0To3() {
        Still.bounds("family", 0, 3, (x, v) -> x.make(v, 0, 2, 1));
    }

    @Says("BAD;")
    private static void promise26HowIs0To4() {
        Still.bounds("how", 0, 4, (x, v) -> x.make(0, v, 2, 1));
    }

    @Says({"BAD;", "n is 0 .. 12, where not told."})
    private static void promise26NIs0To12Or6() {
        Still.bounds("n, how 0", 0, 12, (x, v) -> x.make(0, 0, v, 0));
        Still.bounds("n, how 1", 0, 6, (x, v) -> x.make(0, 1, v, 0));
        Still.bounds("n, how 2", 0, 12, (x, v) -> x.make(0, 2, v, 1));
        Still.bounds("n, how 3", 0, 12, (x, v) -> x.make(0, 3, v, 1));
        Still.bounds("n, how 4", 0, 12, (x, v) -> x.make(0, 4, v, 0));
    }

    @Says("BAD;")
    private static void promise26MIs0Or1To12() {
        Still.bounds("m, how 0", 0, 12, (x, v) -> x.make(0, 0, 3, v));
        Still.bounds("m, how 2", 1, 12, (x, v) -> x.make(0, 2, 3, v));
        Still.bounds("m, how 3", 1, 12, (x, v) -> x.make(0, 3, 3, v));
        Still.bad("m 0, n 0, how 2", x -> x.make(0, 2, 0, 0));
        Still.bad("m 0, n 0, how 3", x -> x.make(0, 3, 0, 0));
    }

    @Says({
        "1 for i from 0 to n - 1 POINTS 2 times i, and 1 more (n 0 .. 6; m doesn't matter);",
        "4 for i from 0 to n - 1 all POINTS p of 0 .. 11 for which p modulo n is i (m doesn't matter):",
    })
    private static void promise26MDoesntMatter() {
        for (int m : new int[] {Integer.MIN_VALUE, -1, 0, 13, Integer.MAX_VALUE}) {
            EachIsHit x = new EachIsHit();
            due("how 1, m " + m, x.make(0, 1, 2, m), 2);
            dueAll(x, 0, 3, 12);
            due("how 4, m " + m, x.make(0, 4, 2, m), 2);
            dueAll(x, 0, 1365, 2730);
        }
    }

    /** Family 0 holds sets ahead; then it is made, and holds just these. */
    private static void dueMade(int how, int n, int m, int... sets) {
        EachIsHit x = with(4000, 4000, 7);
        due("make " + how + " " + n + " " + m, x.make(0, how, n, m), sets.length);
        dueAll(x, 0, sets);
    }

    @Says({"how 0 all SETS of m of the POINTS below n (m 0 .. 12), in order as numbers;", "how many SETS it holds."})
    private static void promise26How0AtItsBounds() {
        dueMade(0, 0, 0, 0);
        dueMade(0, 0, 1);
        dueMade(0, 0, 12);
        dueMade(0, 1, 0, 0);
        dueMade(0, 1, 1, 1);
        dueMade(0, 1, 2);
        dueMade(0, 12, 0, 0);
        dueMade(0, 12, 1, singles());
        dueMade(0, 12, 11, 2047, 3071, 3583, 3839, 3967, 4031, 4063, 4079, 4087, 4091, 4093, 4094);
        dueMade(0, 12, 12, 4095);
        dueMade(0, 11, 12);
    }

    @Says("1 for i from 0 to n - 1 POINTS 2 times i, and 1 more (n 0 .. 6; m doesn't matter);")
    private static void promise26How1AtItsBounds() {
        dueMade(1, 0, 0);
        dueMade(1, 1, 0, 3);
        dueMade(1, 5, 0, 3, 12, 48, 192, 768);
        dueMade(1, 6, 0, 3, 12, 48, 192, 768, 3072);
    }

    @Says("2 for i from 0 to n - m POINTS i .. i + m - 1 (m 1 .. 12);")
    private static void promise26How2AtItsBounds() {
        dueMade(2, 0, 1);
        dueMade(2, 1, 1, 1);
        dueMade(2, 1, 2);
        dueMade(2, 12, 1, singles());
        dueMade(2, 12, 11, 2047, 4094);
        dueMade(2, 12, 12, 4095);
        dueMade(2, 11, 12);
        dueMade(2, 0, 12);
    }

    @Says({"3 for i from 0 to n - 1 POINTS i .. i + m - 1, each modulo n (m 1 .. 12);", "how many SETS it holds."})
    private static void promise26How3AtItsBounds() {
        dueMade(3, 0, 1);
        dueMade(3, 0, 12);
        dueMade(3, 1, 1, 1);
        dueMade(3, 1, 12, 1);
        dueMade(3, 2, 1, 1, 2);
        dueMade(3, 2, 2, 3);
        dueMade(3, 12, 1, singles());
        dueMade(3, 12, 11, 2047, 4094, 4093, 4091, 4087, 4079, 4063, 4031, 3967, 3839, 3583, 3071);
        dueMade(3, 12, 12, 4095);
        dueMade(3, 11, 10, 1023, 2046, 2045, 2043, 2039, 2031, 2015, 1983, 1919, 1791, 1535);
    }

    @Says("A FAMILY BECOMES what one is TOLD by a rule, one SET behind the other:")
    private static void promise26LikeSetsRaiseTheTally() {
        EachIsHit x = with(7);
        due("how 3", x.make(0, 3, 12, 12), 1);
        due("tally", x.tally(0, 4095), 12);
        due("how 3", x.make(0, 3, 1, 12), 1);
        due("tally", x.tally(0, 1), 1);
        due("how 3", x.make(0, 3, 3, 2), 3);
        due("tally", x.tally(0, 3), 1);
        due("how 3", x.make(0, 3, 3, 4), 1);
        due("tally", x.tally(0, 7), 3);
    }

    @Says("4 for i from 0 to n - 1 all POINTS p of 0 .. 11 for which p modulo n is i (m doesn't matter):")
    private static void promise26How4AtItsBounds() {
        dueMade(4, 0, 0);
        dueMade(4, 1, 0, 4095);
        dueMade(4, 7, 0, 129, 258, 516, 1032, 2064, 32, 64);
        dueMade(4, 11, 0, 2049, 2, 4, 8, 16, 32, 64, 128, 256, 512, 1024);
        dueMade(4, 12, 0, singles());
    }

    @Says("FULL: it would hold more than 40.")
    private static void promise26FullAbove40() {
        due("36", new EachIsHit().make(0, 0, 9, 2), 36);
        due("36", new EachIsHit().make(0, 0, 9, 7), 36);
        due("35", new EachIsHit().make(0, 0, 7, 3), 35);
        Still.is("45", x -> x.make(0, 0, 10, 2), FULL);
        Still.is("45", x -> x.make(2, 0, 10, 8), FULL);
        Still.is("56", x -> x.make(1, 0, 8, 3), FULL);
        Still.is("924", x -> x.make(3, 0, 12, 6), FULL);
        Still.after(x -> { }, "66", x -> x.make(0, 0, 12, 2), FULL);
    }

    @Says("A FAMILY BECOMES what one is TOLD by a rule, one SET behind the other:")
    private static void promise26OntoAFullFamily() {
        EachIsHit x = Still.busyOne();
        due("what it held doesn't count", x.make(2, 0, 9, 7), 36);
        due("size", x.size(2), 36);
        due("gone", x.tally(2, 1), 0);
    }

    @Says("A FAMILY BECOMES what one is TOLD by a rule, one SET behind the other:")
    private static void promise26TalliesAre1() {
        EachIsHit x = with(3, 3, 3);
        due("make", x.make(0, 1, 1, 0), 1);
        due("tally", x.tally(0, 3), 1);
    }

    @Says("wipe(), copy(), lean(), into(), make(), unpacks(), back() forget them all,")
    private static void promise26ForgetsAllActs() {
        EachIsHit x = with(3);
        due("make of none", x.make(1, 4, 0, 0), 0);
        due("undo", x.undo(), NONE);
    }

    @Says("of several the one that stands first with it;")
    private static void promise26BadAheadOfFull() {
        Still.bad("no family", x -> x.make(4, 0, 12, 6));
        Still.bad("n above", x -> x.make(0, 0, 13, 2));
    }

    public static void main(String[] args) throws ReflectiveOperationException {
        Tests.run(HitsBoundsTest.class);
    }
}
