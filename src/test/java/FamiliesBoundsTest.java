/** Boundary cases of promises 1 to 11, each sentence of the document with a test of its own. */
public final class FamiliesBoundsTest {
    private static final int NONE = -1, BAD = -2, STATE = -3, FULL = -4, NOTHING = -11, PLACE = -12;

    private static void due(String call, long got, long want) {
        Due.due(call, got, want);
    }

    /** Tells a family sets 100, 101, .. */
    private static void fill(EachIsHit x, int f, int sets) {
        for (int i = 0; i < sets; i++) {
            due("tell", x.tell(f, 100 + i), 1);
        }
    }

    private static EachIsHit filled(int sets) {
        EachIsHit x = new EachIsHit();
        fill(x, 1, sets);
        return x;
    }

    private static EachIsHit tallied(int set, int tally) {
        EachIsHit x = new EachIsHit();
        for (int t = 1; t <= tally; t++) {
            due("tell", x.tell(1, set), t);
        }
        return x;
    }

    private static void dueAll(EachIsHit x, int f, int... sets) {
        due("size", x.size(f), sets.length);
        for (int k = 0; k < sets.length; k++) {
            due("at " + k, x.at(f, k), sets[k]);
        }
    }

    // ---- 1: a new object

    @Says("All FAMILIES hold none;")
    private static void promise01AllFamiliesHoldNone() {
        EachIsHit x = new EachIsHit();
        for (int f = 0; f < 4; f++) {
            due("size", x.size(f), 0);
            due("at 0", x.at(f, 0), PLACE);
            due("support of the empty set", x.support(f, 0), 0);
        }
        due("a family beyond", x.size(4), BAD);
    }

    @Says("RULES 0 .. 3.")
    private static void promise01Rules0To3() {
        EachIsHit x = new EachIsHit();
        due("count", x.count(0), 4);
        due("rule -1", x.worth(-1, 5), BAD);
        due("rule 0", x.worth(0, 4095), 12);
        due("rule 3", x.worth(3, 4095), 4095);
        due("rule 4", x.worth(4, 5), BAD);
    }

    @Says("each with a PRICE (0 .. 99; 1 at first).")
    private static void promise01PricesAre1AtFirst() {
        EachIsHit x = new EachIsHit();
        for (int p = 0; p < 12; p++) {
            due("priceOf", x.priceOf(p), 1);
        }
        due("together", x.count(2), 12);
    }

    @Says("or missing (-1; at first).")
    private static void promise01NothingIsRememberedKeptOrWritten() {
        EachIsHit x = new EachIsHit();
        due("acts", x.count(1), 0);
        due("undo", x.undo(), NONE);
        due("back", x.back(), STATE);
        for (int s = 0; s < 4; s++) {
            due("read", x.read(s, 0), NOTHING);
        }
    }

    private static void promise01ObjectsAreApart() {
        EachIsHit x = Still.busyOne();
        EachIsHit y = new EachIsHit();
        due("size", y.size(2), 0);
        due("prices", y.count(2), 12);
        due("rules", y.count(0), 4);
        due("acts", y.count(1), 0);
        due("back", y.back(), STATE);
        due("sheet", y.read(0, 0), NOTHING);
        due("the first one", x.size(2), 40);
    }

    // ---- 2, 3: prices

    @Says({"PRICE of a POINT becomes v: what it was.", "BAD.", "POINTS 0 .. 11,"})
    private static void promise02PointIs0To11() {
        Still.bounds("point", 0, 11, (x, v) -> x.price(v, 5));
        EachIsHit x = new EachIsHit();
        due("price 0", x.price(0, 5), 1);
        due("price 11", x.price(11, 6), 1);
        due("priceOf 0", x.priceOf(0), 5);
        due("priceOf 1", x.priceOf(1), 1);
        due("priceOf 10", x.priceOf(10), 1);
        due("priceOf 11", x.priceOf(11), 6);
    }

    @Says({"PRICE of a POINT becomes v: what it was.", "BAD.", "each with a PRICE (0 .. 99; 1 at first)."})
    private static void promise02PriceIs0To99() {
        Still.bounds("price", 0, 99, (x, v) -> x.price(5, v));
        EachIsHit x = new EachIsHit();
        due("price", x.price(5, 0), 1);
        due("what it was at 0", x.price(5, 99), 0);
        due("what it was at 99", x.price(5, 98), 99);
        due("priceOf", x.priceOf(5), 98);
    }

    @Says("BAD.")
    private static void promise02BothWrong() {
        Still.bad("point and price", x -> x.price(-1, 100));
        Still.bad("point and price", x -> x.price(12, -1));
    }

    @Says("by price() that a PRICE became another one;")
    private static void promise02LikePriceIsNotRemembered() {
        Still.after(x -> x.price(5, 7), "the price as it is", x -> x.price(5, 7), 7);
        Still.is("the first price as it is", x -> x.price(1, 8), 8);
        EachIsHit x = new EachIsHit();
        due("price", x.price(5, 1), 1);
        due("acts", x.count(1), 0);
        due("price", x.price(5, 2), 1);
        due("acts", x.count(1), 1);
    }

    @Says({"PRICE.", "BAD."})
    private static void promise03PointIs0To11() {
        Still.bounds("point", 0, 11, (x, v) -> x.priceOf(v));
        Still.is("priceOf 0", x -> x.priceOf(0), 98);
        Still.is("priceOf 1", x -> x.priceOf(1), 8);
        Still.is("priceOf 10", x -> x.priceOf(10), 80);
        Still.is("priceOf 11", x -> x.priceOf(11), 0);
    }

    // ---- 4: tell

    @Says({"BAD;", "FAMILIES 0 .. 3 hold SETS,"})
    private static void promise04FamilyIs0To3() {
        Still.bounds("family", 0, 3, (x, v) -> x.tell(v, 3));
        EachIsHit x = new EachIsHit();
        due("tell 0", x.tell(0, 3), 1);
        due("tell 3", x.tell(3, 3), 1);
        due("size 1", x.size(1), 0);
        due("size 2", x.size(2), 0);
    }

    @Says({"BAD;", "A SET of POINTS is told by bits (0 .. 4095)."})
    private static void promise04SetIs0To4095() {
        Still.bounds("set", 0, 4095, (x, v) -> x.tell(1, v));
        EachIsHit x = new EachIsHit();
        due("tell the empty set", x.tell(0, 0), 1);
        due("tell all points", x.tell(0, 4095), 1);
        dueAll(x, 0, 0, 4095);
    }

    @Says({"FULL: it holds 40 others.", "40 at most,"})
    private static void promise04FullAt40Others() {
        EachIsHit x = filled(39);
        due("the 40th", x.tell(1, 7), 1);
        due("the 41st", x.tell(1, 8), FULL);
        due("size", x.size(1), 40);
        due("the last", x.at(1, 39), 7);
        due("tally", x.tally(1, 8), 0);
        due("another family", x.tell(2, 8), 1);
        Still.is("full", y -> y.tell(2, 16), FULL);
        Still.is("full for the empty set", y -> y.tell(2, 0), FULL);
        Still.is("full for all points", y -> y.tell(2, 4095), FULL);
    }

    @Says("FULL: it holds 40 others.")
    private static void promise04FullHoldsItAlready() {
        EachIsHit x = filled(40);
        due("the first", x.tell(1, 100), 2);
        due("the last", x.tell(1, 139), 2);
        due("size", x.size(1), 40);
        due("their places", x.at(1, 0), 100);
        due("their places", x.at(1, 39), 139);
    }

    @Says("FULL: it holds 40 others.")
    private static void promise04FullNoMoreWhenOneIsTaken() {
        EachIsHit x = filled(40);
        due("full", x.tell(1, 7), FULL);
        due("take", x.take(1, 100), 0);
        due("room for one", x.tell(1, 7), 1);
        due("full again", x.tell(1, 100), FULL);
        due("it came last", x.at(1, 39), 7);
    }

    @Says("of several the one that stands first with it;")
    private static void promise04BadAheadOfFull() {
        Still.is("a set below, full", x -> x.tell(2, -1), BAD);
        Still.is("a set above, full", x -> x.tell(2, 4096), BAD);
    }

    @Says({
        "A SET is TOLD to a FAMILY: its TALLY.",
        "To TELL a SET to a FAMILY: if it holds it, its TALLY is 1 more (99 stays),",
        "each with its TALLY (1 .. 99).",
    })
    private static void promise04Tally99Stays() {
        EachIsHit x = tallied(9, 98);
        due("to 99", x.tell(1, 9), 99);
        due("above 99", x.tell(1, 9), 99);
        due("tally", x.tally(1, 9), 99);
        Still.after(y -> {
            for (int t = 0; t < 99; t++) {
                y.tell(1, 9);
            }
            y.wipe(0);
        }, "a tally that stays", y -> y.tell(1, 9), 99);
    }

    @Says("by tell() a SET that was TOLD, if that changed anything;")
    private static void promise04TallyThatStaysIsNotRemembered() {
        // With twenty acts of the same kind one more would not be seen: they are forgotten ahead.
        EachIsHit x = tallied(9, 99);
        x.copy(1, 1);
        due("99 stays", x.tell(1, 9), 99);
        due("acts", x.count(1), 0);
        due("undo", x.undo(), NONE);
        due("tally", x.tally(1, 9), 99);
        x.take(1, 9);
        due("to 99 again", x.tell(1, 9), 99);
        due("acts", x.count(1), 2);
        due("99 stays", x.tell(1, 9), 99);
        due("acts", x.count(1), 2);
        due("undo the tell", x.undo(), 1);
        due("tally", x.tally(1, 9), 98);
        due("undo the take", x.undo(), 0);
        due("tally", x.tally(1, 9), 99);
    }

    @Says({
        "A SET is TOLD to a FAMILY: its TALLY.",
        "its place stays;",
        "else it comes last, with TALLY 1.",
        "in the order in which they came to it,",
    })
    private static void promise04PlaceStaysElseLast() {
        EachIsHit x = filled(3);
        due("again", x.tell(1, 100), 2);
        due("new", x.tell(1, 5), 1);
        due("again", x.tell(1, 101), 2);
        dueAll(x, 1, 100, 101, 102, 5);
    }

    // ---- 5: take

    @Says("BAD;")
    private static void promise05FamilyIs0To3() {
        Still.bounds("family", 0, 3, (x, v) -> x.take(v, 3));
    }

    @Says("BAD;")
    private static void promise05SetIs0To4095() {
        Still.bounds("set", 0, 4095, (x, v) -> x.take(1, v));
        EachIsHit x = new EachIsHit();
        x.tell(0, 0);
        x.tell(0, 4095);
        due("take the empty set", x.take(0, 0), 0);
        due("take all points", x.take(0, 4095), 0);
        due("size", x.size(0), 0);
    }

    @Says({
        "A SET is TAKEN from a FAMILY: its TALLY (0: it is gone).",
        "To TAKE one from it: its TALLY is 1 less;",
        "at 0 it holds it no more",
    })
    private static void promise05Tally2To1To0() {
        EachIsHit x = tallied(9, 2);
        due("to 1", x.take(1, 9), 1);
        due("it is held still", x.size(1), 1);
        due("to 0", x.take(1, 9), 0);
        due("it is gone", x.size(1), 0);
        due("none such", x.take(1, 9), NONE);
    }

    @Says("To TAKE one from it: its TALLY is 1 less;")
    private static void promise05From99() {
        EachIsHit x = tallied(9, 99);
        due("to 98", x.take(1, 9), 98);
        due("tally", x.tally(1, 9), 98);
    }

    @Says("NONE: it holds none such.")
    private static void promise05NoneSuch() {
        Still.after(x -> { }, "from an empty family", x -> x.take(0, 0), NONE);
        Still.is("from a family of others", x -> x.take(0, 5), NONE);
        Still.is("from a full family", x -> x.take(2, 16), NONE);
        Still.is("what was taken", x -> x.take(1, 6), NONE);
    }

    @Says("of several the one that stands first with it;")
    private static void promise05BadAheadOfNone() {
        Still.after(x -> { }, "no set of an empty family", x -> x.take(0, 4096), BAD);
        Still.after(x -> { }, "no set of an empty family", x -> x.take(0, -1), BAD);
    }

    @Says("(the others stay in order).")
    private static void promise05OthersStayInOrder() {
        EachIsHit x = filled(4);
        x.tell(1, 103);
        due("the first", x.take(1, 100), 0);
        dueAll(x, 1, 101, 102, 103);
        due("one between", x.take(1, 102), 0);
        dueAll(x, 1, 101, 103);
        due("its tally came along", x.tally(1, 103), 2);
        due("the last, twice", x.take(1, 103), 1);
        due("the last, twice", x.take(1, 103), 0);
        dueAll(x, 1, 101);
    }

    @Says("(the others stay in order).")
    private static void promise05FromAFullFamily() {
        EachIsHit x = filled(40);
        due("the last", x.take(1, 139), 0);
        due("at 38", x.at(1, 38), 138);
        due("at 39", x.at(1, 39), PLACE);
        due("the first", x.take(1, 100), 0);
        due("at 0", x.at(1, 0), 101);
        due("at 37", x.at(1, 37), 138);
        due("at 38", x.at(1, 38), PLACE);
    }

    // ---- 6, 7, 8: tally, at, size

    @Says("BAD.")
    private static void promise06FamilyIs0To3() {
        Still.bounds("family", 0, 3, (x, v) -> x.tally(v, 3));
    }

    @Says("BAD.")
    private static void promise06SetIs0To4095() {
        Still.bounds("set", 0, 4095, (x, v) -> x.tally(1, v));
        Still.is("the empty set", x -> x.tally(3, 0), 1);
        Still.is("all points", x -> x.tally(1, 4095), 1);
    }

    @Says("TALLY (0: it holds none such).")
    private static void promise06ZeroIfItHoldsNoneSuch() {
        Still.after(x -> { }, "an empty family", x -> x.tally(0, 0), 0);
        Still.is("never told", x -> x.tally(0, 5), 0);
        Still.is("taken", x -> x.tally(1, 6), 0);
        Still.is("told to another one", x -> x.tally(0, 4095), 0);
        Still.is("told twice", x -> x.tally(0, 3), 2);
    }

    @Says("BAD: f;")
    private static void promise07FamilyIs0To3() {
        Still.bounds("family", 0, 3, (x, v) -> x.at(v, 0));
    }

    @Says({"SET k (from 0 on) in order.", "PLACE."})
    private static void promise07PlaceIs0ToBelowSize() {
        Still.is("-1", x -> x.at(0, -1), PLACE);
        Still.is("0", x -> x.at(0, 0), 3);
        Still.is("3", x -> x.at(0, 3), 24);
        Still.is("4", x -> x.at(0, 4), PLACE);
        Still.is("least", x -> x.at(0, Integer.MIN_VALUE), PLACE);
        Still.is("greatest", x -> x.at(0, Integer.MAX_VALUE), PLACE);
        Still.after(x -> { }, "of an empty family", x -> x.at(0, 0), PLACE);
    }

    @Says({"SET k (from 0 on) in order.", "PLACE."})
    private static void promise07PlaceOfAFullFamily() {
        Still.is("39", x -> x.at(2, 39), 8);
        Still.is("40", x -> x.at(2, 40), PLACE);
    }

    @Says("PLACE.")
    private static void promise07PlaceWhereOneWasTaken() {
        EachIsHit x = filled(2);
        x.take(1, 101);
        due("0", x.at(1, 0), 100);
        due("1", x.at(1, 1), PLACE);
    }

    @Says("of several the one that stands first with it;")
    private static void promise07BadAheadOfPlace() {
        Still.bad("no family, no place", x -> x.at(4, -1));
        Still.bad("no family, no place", x -> x.at(-1, 40));
    }

    @Says("BAD.")
    private static void promise08FamilyIs0To3() {
        Still.bounds("family", 0, 3, (x, v) -> x.size(v));
    }

    @Says("How many SETS a FAMILY holds.")
    private static void promise08From0To40() {
        Still.after(x -> { }, "none", x -> x.size(0), 0);
        Still.is("four", x -> x.size(0), 4);
        Still.is("forty", x -> x.size(2), 40);
        due("39", filled(39).size(1), 39);
        due("sets, not tallies", tallied(9, 99).size(1), 1);
    }

    // ---- 9, 10: wipe, copy

    @Says("BAD.")
    private static void promise09FamilyIs0To3() {
        Still.bounds("family", 0, 3, (x, v) -> x.wipe(v));
    }

    @Says("It BECOMES empty: how many it held.")
    private static void promise09HowManyItHeld() {
        EachIsHit x = filled(40);
        due("forty", x.wipe(1), 40);
        due("size", x.size(1), 0);
        due("at 0", x.at(1, 0), PLACE);
        due("tally", x.tally(1, 100), 0);
        due("none", x.wipe(1), 0);
        due("the other ones told anew", x.tell(1, 139), 1);
        due("the other ones told anew", x.at(1, 0), 139);
    }

    @Says("It BECOMES empty: how many it held.")
    private static void promise09OthersStay() {
        EachIsHit x = Still.busyOne();
        due("wipe", x.wipe(1), 3);
        dueAll(x, 0, 3, 6, 12, 24);
        dueAll(x, 3, 0, 4000);
        due("size", x.size(2), 40);
        due("prices", x.priceOf(0), 98);
        due("rules", x.count(0), 8);
    }

    @Says("wipe(), copy(), lean(), into(), make(), unpacks(), back() forget them all,")
    private static void promise09ForgetsAllActs() {
        EachIsHit x = new EachIsHit();
        x.price(0, 2);
        due("wipe of none", x.wipe(0), 0);
        due("undo", x.undo(), NONE);
        due("the price stays", x.priceOf(0), 2);
    }

    @Says("BAD.")
    private static void promise10FamiliesAre0To3() {
        Still.bounds("from", 0, 3, (x, v) -> x.copy(v, 1));
        Still.bounds("to", 0, 3, (x, v) -> x.copy(1, v));
        Still.bad("both", x -> x.copy(-1, 4));
    }

    @Says("FAMILY g BECOMES as f is, TALLIES, order, too: how many SETS.")
    private static void promise10EmptyOntoFull() {
        EachIsHit x = filled(40);
        due("copy", x.copy(0, 1), 0);
        due("size", x.size(1), 0);
        due("tally", x.tally(1, 100), 0);
    }

    @Says("FAMILY g BECOMES as f is, TALLIES, order, too: how many SETS.")
    private static void promise10FullOntoEmpty() {
        EachIsHit x = filled(40);
        x.tell(1, 139);
        due("copy", x.copy(1, 3), 40);
        due("at 0", x.at(3, 0), 100);
        due("at 39", x.at(3, 39), 139);
        due("tally", x.tally(3, 139), 2);
        due("full", x.tell(3, 7), FULL);
        due("that it came from", x.size(1), 40);
    }

    @Says("(f and g may be one and the same.)")
    private static void promise10OneAndTheSame() {
        EachIsHit x = filled(3);
        x.tell(1, 101);
        due("copy", x.copy(1, 1), 3);
        dueAll(x, 1, 100, 101, 102);
        due("tally", x.tally(1, 101), 2);
        due("it forgets", x.count(1), 0);
        due("an empty one", x.copy(2, 2), 0);
    }

    @Says("FAMILY g BECOMES as f is, TALLIES, order, too: how many SETS.")
    private static void promise10ApartFromThenOn() {
        EachIsHit x = filled(2);
        x.copy(1, 2);
        x.tell(1, 100);
        x.take(1, 101);
        dueAll(x, 2, 100, 101);
        due("tally", x.tally(2, 100), 1);
        x.tell(2, 7);
        dueAll(x, 1, 100);
    }

    @Says("wipe(), copy(), lean(), into(), make(), unpacks(), back() forget them all,")
    private static void promise10ForgetsAllActs() {
        EachIsHit x = new EachIsHit();
        x.price(0, 2);
        due("copy of none", x.copy(2, 3), 0);
        due("undo", x.undo(), NONE);
    }

    // ---- 11: undo

    @Says("NONE: none is.")
    private static void promise11NoneIsRemembered() {
        Still.after(x -> { }, "a new object", x -> x.undo(), NONE);
        Still.afterMore(x -> x.wipe(0), "all forgotten", x -> x.undo(), NONE);
        EachIsHit x = new EachIsHit();
        x.price(3, 9);
        due("the only one", x.undo(), 0);
        due("none", x.undo(), NONE);
        due("none again", x.undo(), NONE);
        due("the price", x.priceOf(3), 1);
    }

    @Says({"how many are REMEMBERED still.", "Acts that are REMEMBERED, 20 at most (of more the oldest is forgotten):"})
    private static void promise11TwentyAtMost() {
        for (int acts = 19; acts <= 22; acts++) {
            EachIsHit x = new EachIsHit();
            for (int i = 1; i <= acts; i++) {
                due("price", x.price(0, i + 1), i);
            }
            int known = Math.min(acts, 20);
            due("acts of " + acts, x.count(1), known);
            for (int left = known - 1; left >= 0; left--) {
                due("undo", x.undo(), left);
            }
            due("none of " + acts, x.undo(), NONE);
            due("the oldest is forgotten of " + acts, x.priceOf(0), 1 + acts - known);
        }
    }

    @Says("Acts that are REMEMBERED, 20 at most (of more the oldest is forgotten):")
    private static void promise11OldestIsForgottenOfEachKind() {
        EachIsHit x = new EachIsHit();
        x.tell(0, 5);
        x.tell(0, 5);
        x.take(0, 5);
        x.price(1, 50);
        for (int i = 0; i < 17; i++) {
            due("tell", x.tell(1, i), 1);
        }
        // 21 acts: the first tell is forgotten.
        due("acts", x.count(1), 20);
        for (int left = 19; left >= 0; left--) {
            due("undo", x.undo(), left);
        }
        due("family 1", x.size(1), 0);
        due("the price", x.priceOf(1), 1);
        due("the first tell stays", x.tally(0, 5), 1);
        due("none", x.undo(), NONE);
    }

    @Says("The act that was REMEMBERED last is undone, and not REMEMBERED any more:")
    private static void promise11ActsKeepTheirOwnPlaces() {
        EachIsHit x = new EachIsHit();
        for (int i = 0; i < 24; i++) {
            due("tell", x.tell(i % 4, 200 + i), 1);
        }
        for (int left = 19; left >= 0; left--) {
            due("undo", x.undo(), left);
            due("undone", x.tally(left % 4, 204 + left), 0);
        }
        for (int i = 0; i < 4; i++) {
            dueAll(x, i, 200 + i);
        }
        for (int p = 0; p < 12; p++) {
            x.price(p, 20 + p);
        }
        for (int p = 0; p < 12; p++) {
            x.price(p, 40 + p);
        }
        for (int left = 19; left >= 0; left--) {
            due("undo", x.undo(), left);
        }
        for (int p = 0; p < 12; p++) {
            due("price " + p, x.priceOf(p), p < 4 ? 20 + p : 1);
        }
    }

    @Says("Acts that are REMEMBERED, 20 at most (of more the oldest is forgotten):")
    private static void promise11RoomIsUsedAgain() {
        EachIsHit x = new EachIsHit();
        for (int i = 0; i < 25; i++) {
            x.price(0, i + 2);
        }
        for (int i = 0; i < 5; i++) {
            x.undo();
        }
        due("undone", x.priceOf(0), 21);
        for (int i = 0; i < 6; i++) {
            x.price(0, 90 + i);
        }
        due("acts", x.count(1), 20);
        for (int left = 19; left >= 0; left--) {
            due("undo", x.undo(), left);
        }
        // Prices 2 .. 26 came, five went, six came: 26 in all, of which the first six are forgotten.
        due("the price", x.priceOf(0), 7);
    }

    @Says({"a SET is TAKEN that was TOLD,", "by tell() a SET that was TOLD, if that changed anything;"})
    private static void promise11ToldForTheFirstTimeIsGone() {
        EachIsHit x = filled(2);
        due("undo", x.undo(), 1);
        dueAll(x, 1, 100);
        due("undo", x.undo(), 0);
        due("size", x.size(1), 0);
    }

    @Says("a SET is TAKEN that was TOLD,")
    private static void promise11ToldAgainKeepsItsPlace() {
        EachIsHit x = filled(2);
        x.tell(1, 100);
        due("undo", x.undo(), 2);
        due("tally", x.tally(1, 100), 1);
        dueAll(x, 1, 100, 101);
    }

    @Says({"or TOLD that was TAKEN (it may come last):", "by take() one that was TAKEN."})
    private static void promise11TakenAndGoneComesLast() {
        EachIsHit x = filled(3);
        x.take(1, 100);
        due("undo", x.undo(), 3);
        dueAll(x, 1, 101, 102, 100);
        due("tally", x.tally(1, 100), 1);
        due("undo what was told", x.undo(), 2);
        dueAll(x, 1, 101, 100);
    }

    @Says("or TOLD that was TAKEN (it may come last):")
    private static void promise11TakenButHeldKeepsItsPlace() {
        EachIsHit x = filled(3);
        x.tell(1, 100);
        x.take(1, 100);
        due("undo", x.undo(), 4);
        due("tally", x.tally(1, 100), 2);
        dueAll(x, 1, 100, 101, 102);
    }

    @Says("or TOLD that was TAKEN (it may come last):")
    private static void promise11TakenFromAFullFamily() {
        EachIsHit x = filled(40);
        x.take(1, 105);
        x.tell(1, 7);
        due("full", x.tell(1, 105), FULL);
        due("undo the tell", x.undo(), 19);
        due("undo the take", x.undo(), 18);
        due("size", x.size(1), 40);
        due("last", x.at(1, 39), 105);
        due("tally", x.tally(1, 7), 0);
    }

    @Says("by tell() a SET that was TOLD, if that changed anything;")
    private static void promise11At99() {
        EachIsHit x = tallied(9, 79);
        x.copy(1, 1);
        for (int t = 80; t <= 99; t++) {
            due("tell", x.tell(1, 9), t);
        }
        x.price(0, 2);
        due("the oldest is forgotten", x.undo(), 19);
        due("it stays", x.tell(1, 9), 99);
        due("which is not remembered", x.count(1), 19);
        x = tallied(9, 99);
        due("undo of the last that changed", x.undo(), 19);
        due("tally", x.tally(1, 9), 98);
        x.tell(1, 9);
        x.take(1, 9);
        due("undo of the take", x.undo(), 19);
        due("tally", x.tally(1, 9), 99);
    }

    @Says({"a PRICE is what it was ahead;", "by price() that a PRICE became another one;"})
    private static void promise11PriceIsWhatItWasAhead() {
        EachIsHit x = new EachIsHit();
        x.price(0, 99);
        x.price(0, 0);
        x.price(11, 0);
        due("undo", x.undo(), 2);
        due("price 11", x.priceOf(11), 1);
        due("undo", x.undo(), 1);
        due("price 0", x.priceOf(0), 99);
        due("undo", x.undo(), 0);
        due("price 0", x.priceOf(0), 1);
    }

    @Says("The act that was REMEMBERED last is undone, and not REMEMBERED any more:")
    private static void promise11UndoIsNoActItself() {
        EachIsHit x = new EachIsHit();
        x.price(0, 5);
        x.tell(0, 3);
        due("undo", x.undo(), 1);
        due("acts", x.count(1), 1);
        due("undo", x.undo(), 0);
        due("no redo", x.size(0), 0);
        due("price", x.priceOf(0), 1);
    }

    @Says("it changes nothing, but where told.")
    private static void promise11RefusedActsAreNotRemembered() {
        EachIsHit x = filled(40);
        x.wipe(0);
        x.tell(1, 7);
        x.tell(4, 7);
        x.tell(0, 4096);
        x.take(1, 7);
        x.take(0, -1);
        x.price(12, 5);
        x.price(0, 100);
        due("acts", x.count(1), 0);
        due("undo", x.undo(), NONE);
    }

    public static void main(String[] args) throws ReflectiveOperationException {
        Tests.run(FamiliesBoundsTest.class);
    }
}
