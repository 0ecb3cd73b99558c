/** Boundary cases of promises 27 to 31, each sentence of the document with a test of its own. */
public final class RulesBoundsTest {
    private static final int NONE = -1, BAD = -2, FULL = -4, PLACE = -12;
    private static final int LEAST = Integer.MIN_VALUE, GREATEST = Integer.MAX_VALUE;

    private static void due(String call, long got, long want) {
        Due.due(call, got, want);
    }

    /** Rules 4 .. 11 are there, too. */
    private static void fillRules(EachIsHit x) {
        for (int r = 4; r < 12; r++) {
            x.rule(0, 0, 3, 0);
        }
    }

    /** A rule is told with each of these in the place of what doesn't matter. */
    private static final int[] ANY = {LEAST, -1, 12, GREATEST};

    // ---- 27: rule

    @Says("BAD: how;")
    private static void promise27HowIs0To8() {
        Still.bounds("how", 0, 8, (x, v) -> x.rule(v, 0, 0, 0));
    }

    @Says({"a, b: no such RULE, where it is asked of it;", "a, b are RULES there are already."})
    private static void promise27PartsAreRulesThereAre() {
        for (int how : new int[] {0, 1, 2, 3, 4, 5, 8}) {
            for (int a : new int[] {-1, LEAST, GREATEST, 12}) {
                Still.bad("a " + a + " of how " + how, x -> x.rule(how, a, 0, 0));
            }
            Still.after(x -> { }, "a 4 of 4, how " + how, x -> x.rule(how, 4, 0, 0), BAD);
            Still.is("a 8 of 8, how " + how, x -> x.rule(how, 8, 0, 0), BAD);
            due("a 3 of 4", new EachIsHit().rule(how, 3, 0, 0), 4);
            due("a 7 of 8", Still.busyOne().rule(how, 7, 0, 0), 8);
        }
        for (int how : new int[] {0, 1, 5}) {
            for (int b : new int[] {-1, LEAST, GREATEST, 12}) {
                Still.bad("b " + b + " of how " + how, x -> x.rule(how, 0, b, 0));
            }
            Still.after(x -> { }, "b 4 of 4, how " + how, x -> x.rule(how, 0, 4, 0), BAD);
            Still.is("b 8 of 8, how " + how, x -> x.rule(how, 0, 8, 0), BAD);
            due("b 3 of 4", new EachIsHit().rule(how, 0, 3, 0), 4);
            due("b 7 of 8", Still.busyOne().rule(how, 0, 7, 0), 8);
        }
    }

    @Says("a, b: no such RULE, where it is asked of it;")
    private static void promise27PartsThatCameSinceTheImageAreNone() {
        EachIsHit x = new EachIsHit();
        x.image();
        due("rule", x.rule(6, 0, 0, 0), 4);
        due("a part", x.rule(2, 4, 0, 2), 5);
        x.back();
        due("none such", x.rule(2, 4, 0, 2), BAD);
        due("count", x.count(0), 4);
    }

    @Says("c: how 2 -9 .. 9, how 3, 5 a POINT, how 4 -11 .. 11, how 7 a FAMILY;")
    private static void promise27CIsWithinItsHow() {
        Still.bounds("c, how 2", -9, 9, (x, v) -> x.rule(2, 0, 0, v));
        Still.bounds("c, how 3", 0, 11, (x, v) -> x.rule(3, 0, 0, v));
        Still.bounds("c, how 4", -11, 11, (x, v) -> x.rule(4, 0, 0, v));
        Still.bounds("c, how 5", 0, 11, (x, v) -> x.rule(5, 0, 0, v));
        Still.bounds("c, how 7", 0, 3, (x, v) -> x.rule(7, 0, 0, v));
    }

    @Says("(What isn't named with how doesn't matter.)")
    private static void promise27WhatIsntNamedDoesntMatter() {
        for (int v : ANY) {
            EachIsHit x = new EachIsHit();
            due("how 0, c " + v, x.rule(0, 0, 3, v), 4);
            due("how 1, c " + v, x.rule(1, 0, 3, v), 5);
            due("how 2, b " + v, x.rule(2, 3, v, 2), 6);
            due("how 3, b " + v, x.rule(3, 3, v, 0), 7);
            due("how 4, b " + v, x.rule(4, 3, v, 1), 8);
            due("how 6, all " + v, x.rule(6, v, v, v), 9);
            due("how 7, a, b " + v, x.rule(7, v, v, 2), 10);
            due("how 8, b, c " + v, x.rule(8, 3, v, v), 11);
            x.tell(2, 3);
            int[] told = {2 + 5, 5, 10, 4, 10, 2, 1, 4090};
            for (int r = 4; r < 12; r++) {
                due("worth " + r, x.worth(r, 5), told[r - 4]);
            }
        }
    }

    @Says("One more RULE: its number.")
    private static void promise27NumbersOneBehindTheOther() {
        EachIsHit x = new EachIsHit();
        for (int r = 4; r < 12; r++) {
            due("count", x.count(0), r);
            due("rule", x.rule(6, 0, 0, 0), r);
        }
        due("count", x.count(0), 12);
    }

    @Says({"FULL.", "RULES (12 at most) tell what a SET is worth."})
    private static void promise27FullAt12() {
        EachIsHit x = new EachIsHit();
        fillRules(x);
        due("count", x.count(0), 12);
        for (int how = 0; how <= 8; how++) {
            int h = how;
            Still.after(RulesBoundsTest::fillRules, "how " + h, y -> y.rule(h, 0, 0, 0), FULL);
            Still.after(RulesBoundsTest::fillRules, "how " + h, y -> y.rule(h, 11, 11, 0), FULL);
        }
    }

    @Says("of several the one that stands first with it;")
    private static void promise27BadAheadOfFull() {
        int[][] bad = {
            {-1, 0, 0, 0}, {9, 0, 0, 0}, {0, 12, 0, 0}, {0, 0, 12, 0}, {1, -1, 0, 0}, {1, 0, -1, 0}, {2, 0, 0, 10},
            {2, 0, 0, -10}, {2, 12, 0, 0}, {3, 0, 0, 12}, {3, 0, 0, -1}, {3, 12, 0, 0}, {4, 0, 0, 12}, {4, 0, 0, -12},
            {4, 12, 0, 0}, {5, 0, 0, 12}, {5, 12, 0, 0}, {5, 0, 12, 0}, {7, 0, 0, 4}, {7, 0, 0, -1}, {8, 12, 0, 0},
        };
        for (int[] b : bad) {
            Still.after(RulesBoundsTest::fillRules, "how " + b[0], x -> x.rule(b[0], b[1], b[2], b[3]), BAD);
        }
    }

    @Says("FULL.")
    private static void promise27RoomAgainWhenItIsBack() {
        EachIsHit x = new EachIsHit();
        x.image();
        fillRules(x);
        due("full", x.rule(6, 0, 0, 0), FULL);
        x.back();
        due("room", x.rule(2, 0, 0, 3), 4);
        due("worth", x.worth(4, 7), 9);
    }

    @Says("One more RULE: its number.")
    private static void promise27IsNoActAndForgetsNone() {
        EachIsHit x = new EachIsHit();
        x.price(0, 5);
        due("rule", x.rule(6, 0, 0, 0), 4);
        due("acts", x.count(1), 1);
        due("undo", x.undo(), 0);
        due("rules", x.count(0), 5);
    }

    // ---- 28: worth

    @Says("BAD.")
    private static void promise28RuleIsOneThereIs() {
        Still.after(x -> { }, "-1", x -> x.worth(-1, 0), BAD);
        Still.after(x -> { }, "4 of 4", x -> x.worth(4, 0), BAD);
        Still.after(x -> { }, "3 of 4", x -> x.worth(3, 5), 5);
        Still.is("8 of 8", x -> x.worth(8, 0), BAD);
        Still.is("7 of 8", x -> x.worth(7, 2), -72);
        Still.is("least", x -> x.worth(LEAST, 0), BAD);
        Still.is("greatest", x -> x.worth(GREATEST, 0), BAD);
        Still.after(RulesBoundsTest::fillRules, "11 of 12", x -> x.worth(11, 5), 7);
        Still.after(RulesBoundsTest::fillRules, "12 of 12", x -> x.worth(12, 5), BAD);
    }

    @Says("BAD.")
    private static void promise28SetIs0To4095() {
        for (int rule = 0; rule < 4; rule++) {
            int r = rule;
            Still.bounds("set, rule " + r, 0, 4095, (x, v) -> x.worth(r, v));
        }
    }

    @Says({
        "What a RULE tells of a SET.",
        "0: how many POINTS it has.",
        "1: their PRICES (as they are when it is asked), together.",
        "2: the greatest PRICE of one of them (0 of none).",
        "3: its number.",
    })
    private static void promise28FirstRulesOfNoneAndAllPoints() {
        EachIsHit x = new EachIsHit();
        for (int p = 0; p < 12; p++) {
            x.price(p, 99);
        }
        int[] ofNone = {0, 0, 0, 0};
        int[] ofAll = {12, 1188, 99, 4095};
        int[] ofLast = {1, 99, 99, 2048};
        for (int r = 0; r < 4; r++) {
            due("of none " + r, x.worth(r, 0), ofNone[r]);
            due("of all " + r, x.worth(r, 4095), ofAll[r]);
            due("of the last point " + r, x.worth(r, 2048), ofLast[r]);
        }
        for (int p = 0; p < 12; p++) {
            x.price(p, 0);
        }
        due("free points together", x.worth(1, 4095), 0);
        due("the dearest free point", x.worth(2, 4095), 0);
    }

    @Says("2: the greatest PRICE of one of them (0 of none).")
    private static void promise28GreatestPriceOfEachPoint() {
        for (int dear = 0; dear < 12; dear++) {
            EachIsHit x = new EachIsHit();
            x.price(dear, 2);
            due("alone", x.worth(2, 1 << dear), 2);
            due("of all", x.worth(2, 4095), 2);
            due("of the others", x.worth(2, 4095 - (1 << dear)), 1);
            due("together", x.worth(1, 4095), 13);
        }
    }

    @Says("1 the greater of what a tells, b tells;")
    private static void promise28GreaterOfBoth() {
        EachIsHit x = new EachIsHit();
        x.rule(2, 3, 0, -1);
        x.rule(1, 4, 0, 0);
        x.rule(1, 0, 4, 0);
        x.rule(1, 4, 4, 0);
        due("b", x.worth(5, 7), 3);
        due("a", x.worth(6, 7), 3);
        due("below 0", x.worth(7, 7), -7);
        due("like ones", x.worth(5, 0), 0);
    }

    @Says("2 c times what a tells;")
    private static void promise28TimesC() {
        EachIsHit x = new EachIsHit();
        int[] times = {-9, -1, 0, 1, 9};
        for (int i = 0; i < times.length; i++) {
            due("rule", x.rule(2, 3, 0, times[i]), 4 + i);
            due("times " + times[i], x.worth(4 + i, 4095), times[i] * 4095);
        }
    }

    @Says("3 what a tells of it without POINT c;")
    private static void promise28WithoutPointC() {
        EachIsHit x = new EachIsHit();
        x.rule(3, 3, 0, 0);
        x.rule(3, 3, 0, 11);
        due("without 0", x.worth(4, 4095), 4094);
        due("it hasn't 0", x.worth(4, 4094), 4094);
        due("without 11", x.worth(5, 4095), 2047);
        due("it hasn't 11", x.worth(5, 2047), 2047);
        due("none is left", x.worth(5, 2048), 0);
        due("of none", x.worth(4, 0), 0);
    }

    @Says("4 what a tells of it shifted: each POINT p becomes p + c, those that aren't 0 .. 11 then are left out;")
    private static void promise28ShiftedByC() {
        EachIsHit x = new EachIsHit();
        int[] by = {-11, -1, 0, 1, 11};
        int[] ofAll = {1, 2047, 4095, 4094, 2048};
        int[] ofFirst = {0, 0, 1, 2, 2048};
        int[] ofLast = {1, 1024, 2048, 0, 0};
        for (int i = 0; i < by.length; i++) {
            due("rule", x.rule(4, 3, 0, by[i]), 4 + i);
            due("all by " + by[i], x.worth(4 + i, 4095), ofAll[i]);
            due("point 0 by " + by[i], x.worth(4 + i, 1), ofFirst[i]);
            due("point 11 by " + by[i], x.worth(4 + i, 2048), ofLast[i]);
            due("none by " + by[i], x.worth(4 + i, 0), 0);
        }
    }

    @Says("5 what a tells, if it has POINT c, else what b tells;")
    private static void promise28IfItHasPointC() {
        EachIsHit x = new EachIsHit();
        x.rule(5, 3, 0, 0);
        x.rule(5, 3, 0, 11);
        due("it has 0", x.worth(4, 3), 3);
        due("it hasn't 0", x.worth(4, 6), 2);
        due("it has 11", x.worth(5, 2049), 2049);
        due("it hasn't 11", x.worth(5, 2047), 11);
    }

    @Says({
        "6 PRICES as they are when the RULE comes, of its POINTS together;",
        "1: their PRICES (as they are when it is asked), together.",
    })
    private static void promise28PricesAsTheyWere() {
        EachIsHit x = new EachIsHit();
        x.rule(6, 0, 0, 0);
        x.price(0, 99);
        x.price(11, 0);
        x.rule(6, 0, 0, 0);
        x.image();
        x.price(0, 0);
        x.price(11, 99);
        due("at first", x.worth(4, 2049), 2);
        due("then", x.worth(5, 2049), 99);
        due("point 11 then", x.worth(5, 2048), 0);
        due("now", x.worth(1, 2049), 99);
        due("point 11 now", x.worth(1, 2048), 99);
        x.undo();
        due("undone", x.worth(1, 2048), 0);
        x.back();
        due("at first, back", x.worth(4, 4095), 12);
        due("then, back", x.worth(5, 4095), 99 + 10);
    }

    @Says("7 how many SETS of FAMILY c (as it is when it is asked) it has a POINT of;")
    private static void promise28FamilyAsItIs() {
        EachIsHit x = new EachIsHit();
        for (int c = 0; c < 4; c++) {
            due("rule", x.rule(7, 0, 0, c), 4 + c);
            due("of none", x.worth(4 + c, 4095), 0);
        }
        x.make(0, 0, 9, 2);
        x.make(3, 0, 12, 1);
        x.tell(3, 0);
        x.tell(3, 1);
        due("36", x.worth(4, 4095), 36);
        due("none of points", x.worth(4, 0), 0);
        due("one point", x.worth(4, 1), 8);
        due("two points", x.worth(4, 3), 15);
        due("not the empty set, not tallies", x.worth(7, 4095), 12);
        due("another family", x.worth(5, 4095), 0);
        x.wipe(0);
        due("wiped", x.worth(4, 4095), 0);
    }

    @Says("8 what a tells of all POINTS that it hasn't.")
    private static void promise28OfThePointsThatItHasnt() {
        EachIsHit x = new EachIsHit();
        x.rule(8, 3, 0, 0);
        x.rule(8, 4, 0, 0);
        due("of none", x.worth(4, 0), 4095);
        due("of all", x.worth(4, 4095), 0);
        due("of one", x.worth(4, 2048), 2047);
        due("of those that it hasn't", x.worth(5, 2048), 2048);
    }

    @Says("Ints wrap.")
    private static void promise28IntsWrap() {
        EachIsHit x = new EachIsHit();
        x.rule(2, 3, 0, 9);
        for (int r = 5; r < 11; r++) {
            x.rule(2, r - 1, 0, 9);
        }
        // 9 to the 7th is 4782969.
        due("the greatest that fits", x.worth(10, 448), 2142770112);
        due("one more wraps", x.worth(10, 449), (int) (449L * 4782969));
        due("all points", x.worth(10, 4095), (int) (4095L * 4782969));
        x.rule(0, 10, 10, 0);
        due("a sum wraps", x.worth(11, 225), (int) (450L * 4782969));
    }

    @Says("What a RULE tells of a SET.")
    private static void promise28AsDeepAsThereAreRules() {
        EachIsHit x = new EachIsHit();
        for (int r = 4; r < 12; r++) {
            due("rule", x.rule(r % 2 == 0 ? 8 : 4, r - 1, 0, 1), r);
        }
        // Four times the set is shifted by 1, and becomes the points that it hasn't then.
        int set = 0x801;
        for (int i = 0; i < 4; i++) {
            set = 4095 - ((set << 1) & 4095);
        }
        due("worth", x.worth(11, 0x801), set);
        EachIsHit y = new EachIsHit();
        for (int r = 4; r < 12; r++) {
            y.rule(0, r - 1, r - 1, 0);
        }
        due("doubled eight times", y.worth(11, 4095), 256 * 4095);
    }

    /** Rules 4 .. 11, each with the one ahead as a or b: what the last one tells of a set. */
    private static void dueChain(int how, boolean isByA, int c, int set, int want) {
        EachIsHit x = new EachIsHit();
        for (int r = 4; r < 12; r++) {
            due("rule", isByA ? x.rule(how, r - 1, 0, c) : x.rule(how, 0, r - 1, c), r);
        }
        due("how " + how + (isByA ? " by a" : " by b"), x.worth(11, set), want);
    }

    @Says({"0 what a tells, and what b tells;", "More come by hows:"})
    private static void promise28EachHowAsDeepAsThereAreRules() {
        dueChain(0, true, 0, 0x803, 0x803 + 8 * 3);
        dueChain(0, false, 0, 0x803, 0x803 + 8 * 3);
        dueChain(1, true, 0, 0x803, 0x803);
        dueChain(1, false, 0, 0x803, 0x803);
        dueChain(2, true, -2, 0x803, 256 * 0x803);
        dueChain(3, true, 11, 0x803, 3);
        dueChain(4, true, 1, 0x809, 0x900);
        dueChain(4, true, -1, 0x803, 8);
        dueChain(5, true, 11, 0x803, 0x803);
        dueChain(5, false, 4, 0x803, 0x803);
        dueChain(8, true, 0, 0x803, 0x803);
    }

    // ---- 29: best

    @Says("BAD;")
    private static void promise29FamilyIs0To3() {
        Still.bounds("family", 0, 3, (x, v) -> x.best(v, 0, 0));
    }

    @Says("BAD;")
    private static void promise29RuleIsOneThereIs() {
        Still.after(x -> { }, "-1", x -> x.best(0, -1, 0), BAD);
        Still.after(x -> { }, "4 of 4", x -> x.best(0, 4, 0), BAD);
        Still.after(x -> { }, "3 of 4", x -> x.best(0, 3, 0), 0);
        Still.is("8 of 8", x -> x.best(0, 8, 1), BAD);
        Still.is("7 of 8", x -> x.best(0, 7, 0), 22);
        Still.is("greatest", x -> x.best(0, GREATEST, 0), BAD);
        Still.is("least", x -> x.best(0, LEAST, 0), BAD);
    }

    @Says("BAD;")
    private static void promise29WhatIs0To1() {
        Still.bounds("what", 0, 1, (x, v) -> x.best(0, 0, v));
    }

    @Says("NONE: DUAL is empty.")
    private static void promise29DualIsEmpty() {
        Still.after(x -> x.tell(0, 0), "which", x -> x.best(0, 0, 0), NONE);
        Still.after(x -> x.tell(0, 0), "what it tells", x -> x.best(0, 0, 1), NONE);
        Still.is("with others", x -> x.best(3, 3, 0), NONE);
    }

    @Says({"Of DUAL of a FAMILY the SET of which a RULE tells least,", "and what it tells (1)."})
    private static void promise29OfAnEmptyFamily() {
        Still.after(x -> { }, "which", x -> x.best(0, 3, 0), 0);
        Still.after(x -> { }, "what it tells", x -> x.best(0, 3, 1), 0);
        EachIsHit x = new EachIsHit();
        x.rule(8, 3, 0, 0);
        due("which", x.best(0, 4, 0), 0);
        due("what it tells", x.best(0, 4, 1), 4095);
    }

    @Says({
        "Of DUAL of a FAMILY the SET of which a RULE tells least,",
        "of like ones the first (what 0),",
        "and what it tells (1).",
    })
    private static void promise29OfLikeOnesTheFirst() {
        EachIsHit x = new EachIsHit();
        x.tell(0, 4095);
        x.rule(2, 3, 0, -1);
        due("all alike", x.best(0, 0, 0), 1);
        due("the last is the least", x.best(0, 4, 0), 2048);
        due("what it tells", x.best(0, 4, 1), -2048);
        x.price(0, 5);
        due("all alike but the first", x.best(0, 1, 0), 2);
        x.price(11, 0);
        due("the last", x.best(0, 1, 0), 2048);
        due("what it tells", x.best(0, 1, 1), 0);
    }

    @Says("Of DUAL of a FAMILY the SET of which a RULE tells least,")
    private static void promise29OfAllPointsAlone() {
        EachIsHit x = new EachIsHit();
        x.make(0, 0, 12, 1);
        due("which", x.best(0, 3, 0), 4095);
        due("what it tells", x.best(0, 3, 1), 4095);
        x.tell(0, 3);
        due("with a whole", x.best(0, 0, 1), 12);
    }

    @Says("Ints wrap.")
    private static void promise29WhatWraps() {
        EachIsHit x = new EachIsHit();
        x.rule(2, 3, 0, 9);
        for (int r = 5; r < 12; r++) {
            x.rule(2, r - 1, 0, 9);
        }
        // 9 to the 8th is 43046721; times 32 it fits, times 64 it is below 0.
        x.tell(0, 96);
        due("below 0 is less", x.best(0, 11, 0), 64);
        due("what it tells", x.best(0, 11, 1), (int) (64L * 43046721));
    }

    @Says("of several the one that stands first with it;")
    private static void promise29BadAheadOfNone() {
        Still.is("rule", x -> x.best(3, 8, 0), BAD);
        Still.is("what", x -> x.best(3, 0, 2), BAD);
        Still.is("what", x -> x.best(3, 0, -1), BAD);
    }

    // ---- 30, 31: ranked, sums

    @Says("BAD: f, rule;")
    private static void promise30FamilyIs0To3() {
        Still.bounds("family", 0, 3, (x, v) -> x.ranked(v, 0, 0));
    }

    @Says("BAD: f, rule;")
    private static void promise30RuleIsOneThereIs() {
        Still.is("-1", x -> x.ranked(0, -1, 0), BAD);
        Still.is("8 of 8", x -> x.ranked(0, 8, 0), BAD);
        Still.is("7 of 8", x -> x.ranked(0, 7, 0), 24);
        Still.is("greatest", x -> x.ranked(0, GREATEST, 0), BAD);
        Still.after(x -> x.tell(0, 9), "4 of 4", x -> x.ranked(0, 4, 0), BAD);
    }

    @Says({"the one at place k.", "PLACE."})
    private static void promise30PlaceIs0ToBelowSize() {
        Still.is("-1", x -> x.ranked(1, 3, -1), PLACE);
        Still.is("0", x -> x.ranked(1, 3, 0), 5);
        Still.is("1", x -> x.ranked(1, 3, 1), 9);
        Still.is("2", x -> x.ranked(1, 3, 2), 4095);
        Still.is("3", x -> x.ranked(1, 3, 3), PLACE);
        Still.is("least", x -> x.ranked(1, 3, LEAST), PLACE);
        Still.is("greatest", x -> x.ranked(1, 3, GREATEST), PLACE);
        Still.after(x -> { }, "of none", x -> x.ranked(0, 0, 0), PLACE);
    }

    @Says({"SETS of a FAMILY in order of what a RULE tells,", "of like ones as they came:", "the one at place k."})
    private static void promise30OfForty() {
        EachIsHit x = new EachIsHit();
        for (int i = 39; i >= 0; i--) {
            x.tell(0, i);
        }
        for (int k = 0; k < 40; k++) {
            due("place " + k, x.ranked(0, 3, k), k);
        }
        due("place 40", x.ranked(0, 3, 40), PLACE);
        x.rule(2, 3, 0, 0);
        for (int k = 0; k < 40; k++) {
            due("of like ones as they came " + k, x.ranked(0, 4, k), 39 - k);
        }
    }

    @Says("SETS of a FAMILY in order of what a RULE tells,")
    private static void promise30WhatWraps() {
        EachIsHit x = new EachIsHit();
        x.rule(2, 3, 0, 9);
        for (int r = 5; r < 12; r++) {
            x.rule(2, r - 1, 0, 9);
        }
        x.tell(0, 0);
        x.tell(0, 49);
        x.tell(0, 50);
        due("far below 0", x.ranked(0, 11, 0), 50);
        due("0", x.ranked(0, 11, 1), 0);
        due("far above 0", x.ranked(0, 11, 2), 49);
    }

    @Says("of several the one that stands first with it;")
    private static void promise30BadAheadOfPlace() {
        Still.is("family", x -> x.ranked(4, 0, -1), BAD);
        Still.is("rule", x -> x.ranked(0, 8, 99), BAD);
        Still.after(x -> { }, "rule, of none", x -> x.ranked(0, 4, 0), BAD);
    }

    @Says("BAD.")
    private static void promise31FamilyIs0To3() {
        Still.bounds("family", 0, 3, (x, v) -> x.sums(v, 0));
    }

    @Says("BAD.")
    private static void promise31RuleIsOneThereIs() {
        Still.is("-1", x -> x.sums(0, -1), BAD);
        Still.is("8 of 8", x -> x.sums(0, 8), BAD);
        Still.is("7 of 8", x -> x.sums(3, 7), -9 * (8 * (5 + 7 + 8 + 9 + 10 + 11)));
        Still.is("greatest", x -> x.sums(0, GREATEST), BAD);
        Still.after(x -> { }, "4 of 4", x -> x.sums(0, 4), BAD);
    }

    @Says("What a RULE tells of all SETS of a FAMILY, each as often as its TALLY, together.")
    private static void promise31OfNoneAndOfTheEmptySet() {
        Still.after(x -> { }, "of none", x -> x.sums(0, 3), 0);
        Still.after(x -> x.tell(0, 0), "of the empty set", x -> x.sums(0, 3), 0);
        EachIsHit x = new EachIsHit();
        x.rule(8, 3, 0, 0);
        due("of none", x.sums(0, 4), 0);
        x.tell(0, 0);
        x.tell(0, 0);
        due("of the empty set", x.sums(0, 4), 2 * 4095);
    }

    @Says("What a RULE tells of all SETS of a FAMILY, each as often as its TALLY, together.")
    private static void promise31EachAsOftenAsItsTally() {
        EachIsHit x = new EachIsHit();
        for (int i = 0; i < 100; i++) {
            x.tell(0, 4095);
        }
        due("99 times", x.sums(0, 3), 99 * 4095);
        x.tell(0, 1);
        due("and one", x.sums(0, 3), 99 * 4095 + 1);
        x.take(0, 4095);
        due("98 times and one", x.sums(0, 0), 98 * 12 + 1);
    }

    @Says("Ints wrap.")
    private static void promise31IntsWrap() {
        EachIsHit x = new EachIsHit();
        x.rule(2, 3, 0, 9);
        for (int r = 5; r < 12; r++) {
            x.rule(2, r - 1, 0, 9);
        }
        x.tell(0, 25);
        due("once", x.sums(0, 11), 1076168025);
        x.tell(0, 25);
        due("twice", x.sums(0, 11), (int) (50L * 43046721));
        x.tell(0, 49);
        due("with another one", x.sums(0, 11), (int) (99L * 43046721));
    }

    public static void main(String[] args) throws ReflectiveOperationException {
        Tests.run(RulesBoundsTest.class);
    }
}
