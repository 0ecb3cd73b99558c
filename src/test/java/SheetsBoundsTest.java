/** Boundary cases of promises 32 to 40, each sentence of the document with a test of its own. */
public final class SheetsBoundsTest {
    private static final int NONE = -1, BAD = -2, STATE = -3, NOTHING = -11, PLACE = -12, KIND = -13, SIZE = -14;
    private static final int LEAST = Integer.MIN_VALUE, GREATEST = Integer.MAX_VALUE;
    // Sheets of the object that has much behind it.
    private static final int LONGS = 0, INTS = 1, MISSING = 2, NO_PLACES = 3;

    private static void due(String call, long got, long want) {
        Due.due(call, got, want);
    }

    /** Sheet 0 is a row of longs, each of them -1. */
    private static EachIsHit withLongs(int places) {
        EachIsHit x = new EachIsHit();
        due("sheet", x.sheet(0, 1, places), 1);
        for (int i = 0; i < places; i++) {
            x.cell(0, i, -1L);
        }
        return x;
    }

    /** Family 0 holds sets 1, 2, .. */
    private static void fill(EachIsHit x, int sets) {
        for (int i = 1; i <= sets; i++) {
            due("tell", x.tell(0, i), 1);
        }
    }

    /** Sets from .. from + many - 1 in a long. */
    private static long packed(int from, int many) {
        long v = 0;
        for (int i = many - 1; i >= 0; i--) {
            v = v * 4096 + from + i;
        }
        return v;
    }

    // ---- 32: sheet

    @Says("BAD: s, sort, n above 40;")
    private static void promise32SheetIs0To3() {
        Still.bounds("sheet, longs", 0, 3, (x, v) -> x.sheet(v, 1, 2));
        Still.bounds("sheet, missing", 0, 3, (x, v) -> x.sheet(v, -1, 2));
    }

    @Says("BAD: s, sort, n above 40;")
    private static void promise32SortIsMinus1To1() {
        Still.bounds("sort", -1, 1, (x, v) -> x.sheet(0, v, 2));
    }

    @Says({
        "A SHEET becomes a row of n of a sort, all 0,",
        "BAD: s, sort, n above 40;",
        "SIZE: n below 0.",
        "SHEETS 0 .. 3 are rows of 0 to 40 numbers:",
    })
    private static void promise32PlacesAre0To40() {
        for (int sort = 0; sort < 2; sort++) {
            int r = sort;
            Still.is("41", x -> x.sheet(0, r, 41), BAD);
            Still.is("greatest", x -> x.sheet(0, r, GREATEST), BAD);
            Still.is("-1", x -> x.sheet(0, r, -1), SIZE);
            Still.is("least", x -> x.sheet(0, r, LEAST), SIZE);
            Still.after(x -> { }, "41 on a new object", x -> x.sheet(0, r, 41), BAD);
            Still.after(x -> { }, "-1 on a new object", x -> x.sheet(0, r, -1), SIZE);
            EachIsHit x = new EachIsHit();
            due("0", x.sheet(0, r, 0), 1);
            due("place 0 of 0", x.read(0, 0), PLACE);
            due("1", x.sheet(0, r, 1), 1);
            due("place 0 of 1", x.read(0, 0), 0);
            due("place 1 of 1", x.read(0, 1), PLACE);
            due("40", x.sheet(0, r, 40), 1);
            due("place 39 of 40", x.read(0, 39), 0);
            due("place 40 of 40", x.read(0, 40), PLACE);
        }
    }

    @Says("or missing (sort -1; n doesn't matter): 1.")
    private static void promise32MissingNDoesntMatter() {
        for (int n : new int[] {LEAST, -1, 0, 40, 41, GREATEST}) {
            EachIsHit x = withLongs(2);
            due("missing, n " + n, x.sheet(0, -1, n), 1);
            due("read", x.read(0, 0), NOTHING);
            due("cell", x.cell(0, 0, 1), NOTHING);
            due("missing again, n " + n, x.sheet(0, -1, n), 1);
        }
    }

    @Says("A SHEET becomes a row of n of a sort, all 0,")
    private static void promise32AllZero() {
        EachIsHit x = withLongs(40);
        due("longs again", x.sheet(0, 1, 40), 1);
        for (int i = 0; i < 40; i++) {
            due("place " + i, x.read(0, i), 0);
            x.cell(0, i, 7);
        }
        due("ints", x.sheet(0, 0, 3), 1);
        due("longs", x.sheet(0, 1, 40), 1);
        for (int i = 0; i < 40; i++) {
            due("place " + i, x.read(0, i), 0);
            x.cell(0, i, 7);
        }
        due("missing", x.sheet(0, -1, 0), 1);
        due("ints", x.sheet(0, 0, 40), 1);
        for (int i = 0; i < 40; i++) {
            due("place " + i, x.read(0, i), 0);
        }
    }

    @Says("A SHEET becomes a row of n of a sort, all 0,")
    private static void promise32OtherSheetsStay() {
        EachIsHit x = Still.busyOne();
        due("sheet", x.sheet(MISSING, 1, 40), 1);
        due("longs", x.read(LONGS, 1), -1);
        due("ints", x.read(INTS, 12), -8);
        due("no places", x.read(NO_PLACES, 0), PLACE);
        due("acts", x.count(1), 9);
    }

    @Says("of several the one that stands first with it;")
    private static void promise32BadAheadOfSize() {
        Still.bad("sheet", x -> x.sheet(4, 0, -1));
        Still.bad("sheet", x -> x.sheet(-1, 1, -1));
        Still.bad("sort", x -> x.sheet(0, 2, -1));
        Still.bad("sort", x -> x.sheet(0, -2, -1));
    }

    // ---- 33, 34: cell, read

    @Says("BAD: s;")
    private static void promise33SheetIs0To3() {
        Still.bounds("sheet", 0, 3, (x, v) -> x.cell(v, 0, 5));
    }

    @Says("NOTHING;")
    private static void promise33NothingWhereItIsMissing() {
        Still.after(x -> { }, "at first", x -> x.cell(3, 0, 5), NOTHING);
        Still.is("missing", x -> x.cell(MISSING, 0, 5), NOTHING);
    }

    @Says({"Place i of a SHEET becomes v", "PLACE."})
    private static void promise33PlaceIs0ToBelowPlaces() {
        for (int i : new int[] {LEAST, -1, 3, 40, GREATEST}) {
            Still.is("place " + i, x -> x.cell(LONGS, i, 5), PLACE);
        }
        Still.is("place 13 of ints", x -> x.cell(INTS, 13, 5), PLACE);
        Still.is("place 0 of 0", x -> x.cell(NO_PLACES, 0, 5), PLACE);
        EachIsHit x = withLongs(40);
        due("place 0", x.cell(0, 0, 5), 1);
        due("place 39", x.cell(0, 39, 6), 1);
        due("place 40", x.cell(0, 40, 7), PLACE);
        due("read 0", x.read(0, 0), 5);
        due("read 1", x.read(0, 1), -1);
        due("read 38", x.read(0, 38), -1);
        due("read 39", x.read(0, 39), 6);
    }

    @Says({"(of ints its lowest 32 bits): 1.", "of sort 0 ints,"})
    private static void promise33OfIntsItsLowest32Bits() {
        EachIsHit x = new EachIsHit();
        x.sheet(0, 0, 1);
        long[] told = {
            GREATEST, 1L + GREATEST, LEAST, LEAST - 1L, 1L << 32, (1L << 32) - 1, Long.MAX_VALUE, Long.MIN_VALUE, -1,
        };
        long[] kept = {GREATEST, LEAST, LEAST, GREATEST, 0, -1, -1, 0, -1};
        for (int i = 0; i < told.length; i++) {
            due("cell", x.cell(0, 0, told[i]), 1);
            due("read of " + told[i], x.read(0, 0), kept[i]);
        }
    }

    @Says({"Place i of a SHEET becomes v", "1 longs,"})
    private static void promise33OfLongsAllBits() {
        EachIsHit x = new EachIsHit();
        x.sheet(0, 1, 1);
        for (long v : new long[] {Long.MAX_VALUE, Long.MIN_VALUE, 1L << 32, 1L + GREATEST, LEAST - 1L, -1, 0}) {
            due("cell", x.cell(0, 0, v), 1);
            due("read", x.read(0, 0), v);
        }
    }

    @Says("of several the one that stands first with it;")
    private static void promise33RefusalsInTheirOrder() {
        Still.bad("no sheet, no place", x -> x.cell(4, -1, 5));
        Still.is("missing, no place", x -> x.cell(MISSING, -1, 5), NOTHING);
        Still.is("missing, no place", x -> x.cell(MISSING, 40, 5), NOTHING);
    }

    @Says("BAD: s;")
    private static void promise34SheetIs0To3() {
        Still.bounds("sheet", 0, 3, (x, v) -> x.read(v, 0));
    }

    @Says({"NOTHING;", "or missing (-1; at first)."})
    private static void promise34NothingWhereItIsMissing() {
        Still.after(x -> { }, "at first", x -> x.read(3, 0), NOTHING);
        Still.is("missing", x -> x.read(MISSING, 0), NOTHING);
    }

    @Says({"Place i of a SHEET.", "PLACE."})
    private static void promise34PlaceIs0ToBelowPlaces() {
        for (int i : new int[] {LEAST, -1, 3, 40, GREATEST}) {
            Still.is("place " + i, x -> x.read(LONGS, i), PLACE);
        }
        Still.is("place 0", x -> x.read(LONGS, 0), 5 + (6L << 12) + (9L << 24) + (4095L << 36));
        Still.is("place 2", x -> x.read(LONGS, 2), Long.MIN_VALUE);
        Still.is("place 12 of ints", x -> x.read(INTS, 12), -8);
        Still.is("place 13 of ints", x -> x.read(INTS, 13), PLACE);
        Still.is("place 0 of 0", x -> x.read(NO_PLACES, 0), PLACE);
    }

    @Says("of several the one that stands first with it;")
    private static void promise34RefusalsInTheirOrder() {
        Still.bad("no sheet, no place", x -> x.read(4, -1));
        Still.is("missing, no place", x -> x.read(MISSING, -1), NOTHING);
    }

    // ---- 35: packs

    @Says("BAD;")
    private static void promise35SheetIs0To3() {
        Still.bounds("sheet", 0, 3, (x, v) -> x.packs(v, 1));
    }

    @Says("BAD;")
    private static void promise35FamilyIs0To3() {
        Still.bounds("family", 0, 3, (x, v) -> x.packs(LONGS, v));
    }

    @Says({
        "SETS of a FAMILY, in order, come PACKED to places 0, 1, .. of a SHEET of longs,",
        "the last long filled up with 0:",
        "how many places.",
    })
    private static void promise35FiveToALong() {
        for (int sets : new int[] {0, 1, 4, 5, 6, 39, 40}) {
            EachIsHit x = withLongs(40);
            fill(x, sets);
            int places = (sets + 4) / 5;
            due("places of " + sets, x.packs(0, 0), places);
            for (int i = 0; i < places; i++) {
                due("place " + i + " of " + sets, x.read(0, i), packed(5 * i + 1, Math.min(5, sets - 5 * i)));
            }
            due("behind them, of " + sets, x.read(0, places), -1);
        }
    }

    @Says("the last long filled up with 0:")
    private static void promise35WhatWasTakenIsNotPacked() {
        EachIsHit x = withLongs(2);
        fill(x, 6);
        x.take(0, 6);
        x.take(0, 5);
        due("packs", x.packs(0, 0), 1);
        due("four, and 0", x.read(0, 0), packed(1, 4));
        due("behind", x.read(0, 1), -1);
        x.wipe(0);
        x.tell(0, 4095);
        due("packs", x.packs(0, 0), 1);
        due("one, and 0", x.read(0, 0), 4095);
    }

    @Says("Five SETS are PACKED in a long: the first in its lowest 12 bits, the next ones in the next higher ones.")
    private static void promise35AllBitsOfASet() {
        EachIsHit x = withLongs(1);
        x.tell(0, 4095);
        x.tell(0, 0);
        x.tell(0, 2048);
        x.tell(0, 1);
        x.tell(0, 4094);
        due("packs", x.packs(0, 0), 1);
        due("read", x.read(0, 0), 4095 + (2048L << 24) + (1L << 36) + (4094L << 48));
    }

    @Says("PLACE: what stands ahead came.")
    private static void promise35PlaceWhatStandsAheadCame() {
        EachIsHit x = withLongs(7);
        fill(x, 35);
        due("just enough", x.packs(0, 0), 7);
        x = withLongs(7);
        fill(x, 36);
        due("one too few", x.packs(0, 0), PLACE);
        for (int i = 0; i < 7; i++) {
            due("place " + i, x.read(0, i), packed(5 * i + 1, 5));
        }
        due("acts", x.count(1), 20);
        due("size", x.size(0), 36);
        Still.is("no places at all", y -> y.packs(NO_PLACES, 0), PLACE);
    }

    @Says("how many places.")
    private static void promise35NoneNeedNoPlaces() {
        Still.afterMore(x -> x.wipe(0), "no places, no sets", x -> x.packs(NO_PLACES, 0), 0);
        Still.afterMore(x -> x.wipe(0), "places, no sets", x -> x.packs(LONGS, 0), 0);
    }

    @Says({"NOTHING;", "KIND: it is none of longs;"})
    private static void promise35NothingAndKind() {
        Still.after(x -> { }, "missing at first", x -> x.packs(0, 0), NOTHING);
        Still.is("missing", x -> x.packs(MISSING, 1), NOTHING);
        Still.is("ints", x -> x.packs(INTS, 1), KIND);
    }

    @Says("of several the one that stands first with it;")
    private static void promise35RefusalsInTheirOrder() {
        Still.is("missing, no family", x -> x.packs(MISSING, 4), BAD);
        Still.is("ints, no family", x -> x.packs(INTS, -1), BAD);
        Still.afterMore(x -> x.sheet(1, 0, 0), "ints without places", x -> x.packs(1, 2), KIND);
        Still.afterMore(x -> x.wipe(0), "ints, no sets", x -> x.packs(INTS, 0), KIND);
        Still.afterMore(x -> x.wipe(0), "missing, no sets", x -> x.packs(MISSING, 0), NOTHING);
    }

    // ---- 36: unpacks

    @Says("BAD;")
    private static void promise36SheetIs0To3() {
        Still.bounds("sheet", 0, 3, (x, v) -> x.unpacks(v, 1, 0));
    }

    @Says("BAD;")
    private static void promise36FamilyIs0To3() {
        Still.bounds("family", 0, 3, (x, v) -> x.unpacks(LONGS, v, 1));
    }

    @Says({
        "BAD;",
        "n (0 .. 200) SETS that are PACKED from place 0 of a SHEET of longs on are TOLD to a FAMILY, one by one: how many were",
    })
    private static void promise36NIs0To200() {
        Still.bounds("n", 0, 200, (x, v) -> x.unpacks(LONGS, 1, v));
        EachIsHit x = new EachIsHit();
        x.sheet(0, 1, 40);
        due("0", x.unpacks(0, 0, 0), 0);
        due("none is told", x.size(0), 0);
        due("1", x.unpacks(0, 0, 1), 1);
        due("tally", x.tally(0, 0), 1);
        due("200", x.unpacks(0, 1, 200), 200);
        due("tally", x.tally(1, 0), 99);
    }

    @Says("n (0 .. 200) SETS that are PACKED from place 0 of a SHEET of longs on are TOLD to a FAMILY, one by one: how many were")
    private static void promise36OneByOneInOrder() {
        EachIsHit x = new EachIsHit();
        x.sheet(0, 1, 2);
        x.cell(0, 0, packed(10, 5) | (15L << 60));
        x.cell(0, 1, packed(15, 5));
        due("6", x.unpacks(0, 0, 6), 6);
        due("size", x.size(0), 6);
        for (int k = 0; k < 6; k++) {
            due("at " + k, x.at(0, k), 10 + k);
        }
        due("4", x.unpacks(0, 1, 4), 4);
        due("size", x.size(1), 4);
        due("5", x.unpacks(0, 2, 5), 5);
        due("the highest four bits are no set's", x.at(2, 4), 14);
    }

    @Says("Five SETS are PACKED in a long: the first in its lowest 12 bits, the next ones in the next higher ones.")
    private static void promise36AllBitsOfASet() {
        EachIsHit x = withLongs(1);
        due("unpacks", x.unpacks(0, 0, 5), 5);
        due("size", x.size(0), 1);
        due("tally", x.tally(0, 4095), 5);
        x.cell(0, 0, Long.MIN_VALUE);
        due("unpacks", x.unpacks(0, 1, 5), 5);
        due("the empty set", x.tally(1, 0), 5);
    }

    @Says("PLACE: what stood ahead was.")
    private static void promise36PlaceWhatStoodAheadWasTold() {
        EachIsHit x = new EachIsHit();
        x.sheet(0, 1, 2);
        x.cell(0, 0, packed(10, 5));
        x.cell(0, 1, packed(15, 5));
        due("all that stand there", x.unpacks(0, 0, 10), 10);
        due("one more", x.unpacks(0, 1, 11), PLACE);
        due("size", x.size(1), 10);
        due("last", x.at(1, 9), 19);
        due("200", x.unpacks(0, 2, 200), PLACE);
        due("size", x.size(2), 10);
        due("tally", x.tally(2, 10), 1);
    }

    @Says("PLACE: what stood ahead was.")
    private static void promise36NoPlaces() {
        EachIsHit x = new EachIsHit();
        x.sheet(0, 1, 0);
        x.price(0, 2);
        due("none of none", x.unpacks(0, 0, 0), 0);
        due("it forgets", x.count(1), 0);
        x.price(0, 3);
        due("one of none", x.unpacks(0, 0, 1), PLACE);
        due("none is told", x.size(0), 0);
        due("it forgets", x.count(1), 0);
    }

    @Says("(those for which it is FULL are left out).")
    private static void promise36FullOnesAreLeftOut() {
        EachIsHit x = new EachIsHit();
        for (int i = 0; i < 38; i++) {
            x.tell(0, 100 + i);
        }
        x.sheet(0, 1, 2);
        x.cell(0, 0, packed(1, 2) | (3L << 24) | (100L << 36) | (2L << 48));
        x.cell(0, 1, 4);
        due("two come, two are held, two are left out", x.unpacks(0, 0, 6), 4);
        due("size", x.size(0), 40);
        due("came", x.at(0, 39), 2);
        due("came and was told again", x.tally(0, 2), 2);
        due("left out", x.tally(0, 3), 0);
        due("left out", x.tally(0, 4), 0);
        due("held", x.tally(0, 100), 2);
    }

    @Says("(those for which it is FULL are left out).")
    private static void promise36ToldAt99IsTold() {
        EachIsHit x = new EachIsHit();
        x.sheet(0, 1, 40);
        x.unpacks(0, 0, 98);
        due("98", x.tally(0, 0), 98);
        due("two more", x.unpacks(0, 0, 2), 2);
        due("99 stays", x.tally(0, 0), 99);
        due("two more", x.unpacks(0, 0, 2), 2);
        due("99 stays", x.tally(0, 0), 99);
    }

    @Says({
        "wipe(), copy(), lean(), into(), make(), unpacks(), back() forget them all,",
        "(unpacks() also, where PLACE is answered).",
    })
    private static void promise36ForgetsWhereNotRefused() {
        for (int n : new int[] {0, 5, 15, 16, 200}) {
            EachIsHit x = Still.busyOne();
            due("acts", x.count(1), 9);
            due("unpacks " + n, x.unpacks(LONGS, 1, n), n <= 15 ? n : PLACE);
            due("acts", x.count(1), 0);
            due("undo", x.undo(), NONE);
        }
    }

    @Says("n (0 .. 200) SETS that are PACKED from place 0 of a SHEET of longs on are TOLD to a FAMILY, one by one: how many were")
    private static void promise36SheetStays() {
        EachIsHit x = Still.busyOne();
        x.unpacks(LONGS, 1, 15);
        due("place 1", x.read(LONGS, 1), -1);
        due("place 2", x.read(LONGS, 2), Long.MIN_VALUE);
    }

    @Says({"NOTHING;", "KIND: it is none of longs;"})
    private static void promise36NothingAndKind() {
        Still.after(x -> x.price(0, 2), "missing at first", x -> x.unpacks(0, 0, 0), NOTHING);
        Still.is("missing", x -> x.unpacks(MISSING, 1, 1), NOTHING);
        Still.is("ints", x -> x.unpacks(INTS, 1, 0), KIND);
        Still.is("ints", x -> x.unpacks(INTS, 1, 1), KIND);
    }

    @Says("of several the one that stands first with it;")
    private static void promise36RefusalsInTheirOrder() {
        Still.is("missing, n above", x -> x.unpacks(MISSING, 1, 201), BAD);
        Still.is("missing, n below", x -> x.unpacks(MISSING, 1, -1), BAD);
        Still.is("missing, no family", x -> x.unpacks(MISSING, 4, 1), BAD);
        Still.is("ints, n above", x -> x.unpacks(INTS, 1, 201), BAD);
        Still.is("missing, n too many", x -> x.unpacks(MISSING, 1, 200), NOTHING);
        Still.is("ints, n too many", x -> x.unpacks(INTS, 1, 200), KIND);
        Still.is("no places, n above", x -> x.unpacks(NO_PLACES, 1, 201), BAD);
    }

    // ---- 37: freqs

    @Says("BAD;")
    private static void promise37SheetIs0To3() {
        Still.bounds("sheet", 0, 3, (x, v) -> x.freqs(v, 1));
    }

    @Says("BAD;")
    private static void promise37FamilyIs0To3() {
        Still.bounds("family", 0, 3, (x, v) -> x.freqs(INTS, v));
    }

    @Says({
        "Places 0 .. 11 of a SHEET become how many SETS of a FAMILY have POINT 0 .. 11: 12.",
        "PLACE: what stands ahead came.",
    })
    private static void promise37TwelvePlaces() {
        for (int sort = 0; sort < 2; sort++) {
            for (int places = 11; places <= 13; places++) {
                EachIsHit x = new EachIsHit();
                x.sheet(0, sort, places);
                for (int i = 0; i < places; i++) {
                    x.cell(0, i, -5);
                }
                x.make(0, 2, 12, 11);
                x.tell(0, 2047);
                x.tell(0, 2048);
                due("freqs of " + places, x.freqs(0, 0), places < 12 ? PLACE : 12);
                due("point 0", x.read(0, 0), 1);
                due("point 1", x.read(0, 1), 2);
                due("point 10", x.read(0, 10), 2);
                due("point 11", x.read(0, 11), places < 12 ? PLACE : 2);
                due("behind", x.read(0, 12), places < 13 ? PLACE : -5);
            }
        }
    }

    @Says("Places 0 .. 11 of a SHEET become how many SETS of a FAMILY have POINT 0 .. 11: 12.")
    private static void promise37From0To40() {
        EachIsHit x = new EachIsHit();
        x.sheet(0, 0, 12);
        x.cell(0, 11, 9);
        due("of none", x.freqs(0, 0), 12);
        due("point 11", x.read(0, 11), 0);
        for (int i = 0; i < 40; i++) {
            x.tell(0, 2048 + i);
        }
        x.tell(0, 2048);
        due("of forty", x.freqs(0, 0), 12);
        due("point 11", x.read(0, 11), 40);
        due("point 0", x.read(0, 0), 20);
        due("point 6", x.read(0, 6), 0);
        due("acts", x.count(1), 20);
    }

    @Says({"NOTHING;", "PLACE: what stands ahead came."})
    private static void promise37NoPlacesAndNothing() {
        Still.is("no places", x -> x.freqs(NO_PLACES, 0), PLACE);
        Still.is("missing", x -> x.freqs(MISSING, 0), NOTHING);
        Still.after(x -> { }, "missing at first", x -> x.freqs(0, 0), NOTHING);
        EachIsHit x = Still.busyOne();
        due("three places", x.freqs(LONGS, 0), PLACE);
        due("point 0", x.read(LONGS, 0), 1);
        due("point 1", x.read(LONGS, 1), 2);
        due("point 2", x.read(LONGS, 2), 2);
    }

    @Says("of several the one that stands first with it;")
    private static void promise37RefusalsInTheirOrder() {
        Still.is("missing, no family", x -> x.freqs(MISSING, 4), BAD);
        Still.is("no places, no family", x -> x.freqs(NO_PLACES, -1), BAD);
    }

    // ---- 38, 39: image, back

    @Says("how many SETS all FAMILIES hold, together.")
    private static void promise38HowManySetsInAll() {
        EachIsHit x = new EachIsHit();
        due("none", x.image(), 0);
        for (int f = 0; f < 4; f++) {
            due("make", x.make(f, 0, 9, 2), 36);
            for (int p = 0; p < 4; p++) {
                x.tell(f, 1 << p);
            }
        }
        x.tell(3, 1);
        due("sets, not tallies", x.image(), 160);
    }

    @Says("AN IMAGE is kept:")
    private static void promise38ChangesNothingButTheImage() {
        EachIsHit x = new EachIsHit();
        x.tell(0, 5);
        x.price(3, 7);
        due("image", x.image(), 1);
        due("acts", x.count(1), 2);
        due("undo", x.undo(), 1);
        due("undo", x.undo(), 0);
        due("size", x.size(0), 0);
        due("price", x.priceOf(3), 1);
        due("back", x.back(), 1);
        due("price", x.priceOf(3), 7);
    }

    @Says({
        "AN IMAGE is kept:",
        "how many SETS all FAMILIES hold, together.",
        "AN IMAGE keeps PRICES, FAMILIES with TALLIES and order, how many RULES there are.",
    })
    private static void promise38TheLastOneCounts() {
        EachIsHit x = new EachIsHit();
        x.tell(0, 5);
        x.price(0, 9);
        x.rule(6, 0, 0, 0);
        due("first", x.image(), 1);
        x.wipe(0);
        x.price(0, 8);
        x.rule(6, 0, 0, 0);
        due("second", x.image(), 0);
        x.tell(0, 6);
        x.price(0, 7);
        x.rule(6, 0, 0, 0);
        due("back", x.back(), 0);
        due("size", x.size(0), 0);
        due("price", x.priceOf(0), 8);
        due("rules", x.count(0), 6);
        due("worth", x.worth(5, 1), 8);
    }

    @Says("STATE: there is none.")
    private static void promise39StateWhereThereIsNone() {
        Still.after(x -> { }, "a new object", x -> x.back(), STATE);
        Still.after(x -> {
            x.tell(0, 5);
            x.price(3, 7);
            x.rule(6, 0, 0, 0);
            x.sheet(0, 1, 2);
        }, "one with acts", x -> x.back(), STATE);
    }

    @Says({
        "All that it keeps is as in THE IMAGE,",
        "how many SETS all FAMILIES hold, together.",
        "AN IMAGE keeps PRICES, FAMILIES with TALLIES and order, how many RULES there are.",
    })
    private static void promise39AllThatItKeeps() {
        EachIsHit x = new EachIsHit();
        x.tell(3, 4095);
        x.tell(3, 0);
        for (int i = 0; i < 98; i++) {
            x.tell(3, 0);
        }
        x.price(0, 99);
        x.price(11, 0);
        due("image", x.image(), 2);
        x.take(3, 4095);
        x.tell(3, 4095);
        x.take(3, 0);
        x.make(0, 0, 9, 2);
        x.price(0, 0);
        x.price(11, 99);
        due("back", x.back(), 2);
        due("order", x.at(3, 0), 4095);
        due("order", x.at(3, 1), 0);
        due("tally", x.tally(3, 0), 99);
        due("size", x.size(0), 0);
        due("price 0", x.priceOf(0), 99);
        due("price 11", x.priceOf(11), 0);
    }

    @Says({"All that it keeps is as in THE IMAGE,", "how many SETS all FAMILIES hold, together."})
    private static void promise39OfAnEmptyImage() {
        EachIsHit x = new EachIsHit();
        due("image", x.image(), 0);
        x.make(2, 0, 9, 2);
        x.price(5, 50);
        due("back", x.back(), 0);
        due("size", x.size(2), 0);
        due("prices", x.count(2), 12);
    }

    @Says("RULES that came since are none:")
    private static void promise39RulesThatCameSinceAreNone() {
        EachIsHit x = new EachIsHit();
        x.rule(2, 0, 0, 2);
        x.image();
        for (int r = 5; r < 12; r++) {
            x.rule(2, 0, 0, 3);
        }
        due("rules", x.count(0), 12);
        due("back", x.back(), 0);
        due("rules", x.count(0), 5);
        due("the last there is", x.worth(4, 7), 6);
        due("none such", x.worth(5, 7), BAD);
        due("none such", x.best(0, 5, 0), BAD);
        due("none such", x.ranked(0, 11, 0), BAD);
        due("none such", x.sums(0, 5), BAD);
    }

    @Says("All that it keeps is as in THE IMAGE,")
    private static void promise39AgainAndAgain() {
        EachIsHit x = new EachIsHit();
        x.tell(1, 9);
        x.image();
        for (int i = 0; i < 3; i++) {
            x.wipe(1);
            x.tell(1, 10);
            x.price(2, 70);
            due("back", x.back(), 1);
            due("at 0", x.at(1, 0), 9);
            due("size", x.size(1), 1);
            due("price", x.priceOf(2), 1);
        }
    }

    @Says("wipe(), copy(), lean(), into(), make(), unpacks(), back() forget them all,")
    private static void promise39ForgetsAllActs() {
        EachIsHit x = new EachIsHit();
        x.tell(1, 9);
        x.image();
        due("back", x.back(), 1);
        due("acts", x.count(1), 0);
        due("undo", x.undo(), NONE);
        due("size", x.size(1), 1);
    }

    @Says("AN IMAGE keeps PRICES, FAMILIES with TALLIES and order, how many RULES there are.")
    private static void promise39SheetsStay() {
        EachIsHit x = new EachIsHit();
        x.sheet(0, 1, 2);
        x.image();
        x.cell(0, 1, 5);
        x.sheet(1, 0, 1);
        x.back();
        due("place 1", x.read(0, 1), 5);
        due("the one that came", x.read(1, 0), 0);
    }

    // ---- 40: count

    @Says({"0 RULES,", "1 REMEMBERED acts,", "2 PRICES of all POINTS together.", "BAD."})
    private static void promise40WhatIs0To2() {
        Still.bounds("what", 0, 2, (x, v) -> x.count(v));
        Still.is("rules", x -> x.count(0), 8);
        Still.is("acts", x -> x.count(1), 9);
        Still.is("prices", x -> x.count(2), 98 + 8 * 55);
    }

    @Says({"0 RULES,", "1 REMEMBERED acts,", "2 PRICES of all POINTS together."})
    private static void promise40AtTheLimits() {
        EachIsHit x = new EachIsHit();
        for (int p = 0; p < 12; p++) {
            x.price(p, 0);
        }
        due("all free", x.count(2), 0);
        due("acts", x.count(1), 12);
        for (int p = 0; p < 12; p++) {
            x.price(p, 99);
        }
        due("all dear", x.count(2), 1188);
        due("acts", x.count(1), 20);
        for (int r = 4; r < 13; r++) {
            x.rule(6, 0, 0, 0);
        }
        due("rules", x.count(0), 12);
    }

    public static void main(String[] args) throws ReflectiveOperationException {
        Tests.run(SheetsBoundsTest.class);
    }
}
