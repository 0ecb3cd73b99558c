/** Promises 32 to 40: sheets, the image, what is counted. */
public final class SheetsTest {
    private static final int BAD = -2, STATE = -3, NOTHING = -11, PLACE = -12, KIND = -13, SIZE = -14;

    private static void due(String call, long got, long want) {
        Due.due(call, got, want);
    }

    private static void sheet() {
        EachIsHit x = new EachIsHit();
        due("32", x.sheet(0, 0, 2), 1);
        due("33", x.cell(0, 1, 5), 1);
        due("32 all 0", x.sheet(0, 0, 3), 1);
        due("34", x.read(0, 1), 0);
        due("32", x.sheet(1, 1, 40), 1);
        due("32", x.sheet(1, 1, 41), BAD);
        due("32", x.sheet(1, 1, -1), SIZE);
        due("32", x.sheet(1, 0, Integer.MIN_VALUE), SIZE);
        due("32", x.sheet(1, 0, Integer.MAX_VALUE), BAD);
        due("32 refused", x.read(1, 39), 0);
        due("32", x.sheet(1, 2, 1), BAD);
        due("32", x.sheet(1, -2, -1), BAD);
        due("32", x.sheet(4, 0, -1), BAD);
        due("32", x.sheet(-1, -1, 0), BAD);
        due("32 missing, n doesn't matter", x.sheet(1, -1, 41), 1);
        due("34", x.read(1, 0), NOTHING);
        due("32 missing, n doesn't matter", x.sheet(0, -1, -9), 1);
        due("32 no places", x.sheet(2, 0, 0), 1);
        due("34 no places", x.read(2, 0), PLACE);
    }

    private static void cell() {
        EachIsHit x = new EachIsHit();
        x.sheet(0, 0, 2);
        x.sheet(1, 1, 2);
        due("33", x.cell(0, 0, 0x180000000L), 1);
        due("33 the lowest 32 bits", x.read(0, 0), Integer.MIN_VALUE);
        due("33", x.cell(0, 1, -1L), 1);
        due("34", x.read(0, 1), -1);
        due("33", x.cell(1, 1, Long.MIN_VALUE), 1);
        due("34", x.read(1, 1), Long.MIN_VALUE);
        due("33", x.cell(0, 2, 1), PLACE);
        due("33", x.cell(0, -1, 1), PLACE);
        due("33", x.cell(2, -1, 1), NOTHING);
        due("33", x.cell(4, 0, 1), BAD);
        due("33", x.cell(-1, 0, 1), BAD);
        due("34", x.read(0, 2), PLACE);
        due("34", x.read(0, -1), PLACE);
        due("34", x.read(2, -1), NOTHING);
        due("34", x.read(4, 0), BAD);
        due("34", x.read(-1, 0), BAD);
    }

    private static void packs() {
        EachIsHit x = new EachIsHit();
        x.sheet(0, 1, 2);
        x.sheet(1, 0, 9);
        due("35 none", x.packs(0, 0), 0);
        due("35 none, but ints", x.packs(1, 0), KIND);
        for (int i = 1; i <= 6; i++) {
            x.tell(0, i);
        }
        x.tell(1, 4095);
        x.cell(0, 1, -1);
        due("35", x.packs(0, 1), 1);
        due("35 filled up with 0", x.read(0, 0), 4095);
        due("35 places behind stay", x.read(0, 1), -1);
        due("35", x.packs(0, 0), 2);
        due("35", x.read(0, 0), 1L + (2L << 12) + (3L << 24) + (4L << 36) + (5L << 48));
        due("35", x.read(0, 1), 6);
        for (int i = 7; i <= 11; i++) {
            x.tell(0, i);
        }
        due("35", x.packs(0, 0), PLACE);
        due("35 what stands ahead came", x.read(0, 1), 6L + (7L << 12) + (8L << 24) + (9L << 36) + (10L << 48));
        due("35", x.packs(2, 0), NOTHING);
        due("35", x.packs(4, 0), BAD);
        due("35", x.packs(-1, 0), BAD);
        due("35", x.packs(2, 4), BAD);
        due("35", x.packs(0, -1), BAD);
        x.make(3, 0, 9, 2);
        x.sheet(3, 1, 40);
        due("35 36 sets", x.packs(3, 3), 8);
        x.sheet(3, 1, 0);
        due("35 no places", x.packs(3, 3), PLACE);
        due("35 no places, no sets", x.packs(3, 2), 0);
    }

    private static void unpacks() {
        EachIsHit x = new EachIsHit();
        x.sheet(0, 1, 2);
        x.sheet(1, 0, 9);
        x.cell(0, 0, 1L + (2L << 12) + (1L << 24) + (4L << 36) + (5L << 48) + (15L << 60));
        x.cell(0, 1, -1);
        x.tell(0, 9);
        due("36", x.unpacks(0, 0, 4), 4);
        due("36 in order", x.at(0, 0), 9);
        due("36 in order", x.at(0, 1), 1);
        due("36 in order", x.at(0, 3), 4);
        due("36 tally", x.tally(0, 1), 2);
        due("36", x.size(0), 4);
        due("36", x.unpacks(0, 1, 10), 10);
        due("36 the highest bits are none's", x.tally(1, 4095), 5);
        due("36", x.unpacks(0, 2, 11), PLACE);
        due("36 what stood ahead was", x.size(2), 5);
        due("36", x.tally(2, 4095), 5);
        due("36", x.unpacks(0, 2, 0), 0);
        due("36", x.unpacks(0, 2, 200), PLACE);
        due("36", x.unpacks(0, 2, 201), BAD);
        due("36", x.unpacks(0, 2, -1), BAD);
        due("36", x.unpacks(2, 2, 201), BAD);
        due("36", x.unpacks(4, 0, 0), BAD);
        due("36", x.unpacks(-1, 0, 0), BAD);
        due("36", x.unpacks(0, 4, 0), BAD);
        due("36", x.unpacks(0, -1, 0), BAD);
        due("36", x.unpacks(2, 0, 0), NOTHING);
        due("36", x.unpacks(1, 0, 0), KIND);
        x.make(3, 0, 9, 2);
        for (int p = 0; p < 4; p++) {
            x.tell(3, 1 << p);
        }
        due("36", x.size(3), 40);
        due("36 left out where full", x.unpacks(0, 3, 10), 5);
        due("36 left out where full", x.tally(3, 4095), 0);
        due("36 told what it holds", x.tally(3, 5), 2);
        due("36 told what it holds", x.tally(3, 1), 3);
        due("36", x.unpacks(0, 3, 11), PLACE);
        due("36", x.tally(3, 1), 5);
        x.sheet(0, 1, 40);
        due("36 200 at most", x.unpacks(0, 0, 200), 200);
        due("36 99 stays", x.tally(0, 0), 99);
        due("36 the 99th and more are told, too", x.unpacks(0, 0, 3), 3);
    }

    private static void freqs() {
        EachIsHit x = new EachIsHit();
        x.sheet(0, 0, 13);
        x.sheet(1, 1, 3);
        x.cell(0, 12, 77);
        x.tell(0, 2049);
        x.tell(0, 2049);
        x.tell(0, 1);
        due("37", x.freqs(0, 0), 12);
        due("37 sets, not tallies", x.read(0, 0), 2);
        due("37", x.read(0, 1), 0);
        due("37", x.read(0, 11), 1);
        due("37 places behind stay", x.read(0, 12), 77);
        x.cell(1, 2, 9);
        due("37", x.freqs(1, 0), PLACE);
        due("37 what stands ahead came", x.read(1, 0), 2);
        due("37 what stands ahead came", x.read(1, 2), 0);
        x.sheet(1, 1, 12);
        due("37 longs", x.freqs(1, 0), 12);
        due("37 longs", x.read(1, 11), 1);
        due("37", x.freqs(2, 0), NOTHING);
        due("37", x.freqs(4, 0), BAD);
        due("37", x.freqs(-1, 0), BAD);
        due("37", x.freqs(2, 4), BAD);
        due("37", x.freqs(0, -1), BAD);
    }

    private static void image() {
        EachIsHit x = new EachIsHit();
        due("39", x.back(), STATE);
        x.tell(0, 5);
        x.tell(0, 3);
        x.tell(0, 5);
        x.tell(3, 1);
        x.price(2, 40);
        x.rule(0, 1, 1, 0);
        x.sheet(0, 0, 1);
        due("38", x.image(), 3);
        x.tell(0, 9);
        x.take(0, 3);
        x.tell(0, 3);
        x.wipe(3);
        x.price(2, 41);
        x.rule(2, 4, 0, 3);
        x.cell(0, 0, 8);
        due("40", x.count(0), 6);
        due("39", x.back(), 3);
        due("39 order", x.at(0, 0), 5);
        due("39 order", x.at(0, 1), 3);
        due("39", x.size(0), 2);
        due("39 tallies", x.tally(0, 5), 2);
        due("39", x.tally(3, 1), 1);
        due("39 prices", x.priceOf(2), 40);
        due("39 rules", x.count(0), 5);
        due("39 rules", x.worth(5, 1), BAD);
        due("39 rules", x.worth(4, 4), 80);
        due("39 sheets stay", x.read(0, 0), 8);
        due("27 anew", x.rule(3, 3, 0, 0), 5);
        due("28 anew", x.worth(5, 7), 6);
        x.wipe(0);
        due("39 again", x.back(), 3);
        due("39 again", x.tally(0, 5), 2);
        due("39 again", x.count(0), 5);
        x.wipe(0);
        due("38 anew", x.image(), 1);
        x.tell(0, 1);
        due("39 anew", x.back(), 1);
        due("39 anew", x.size(0), 0);
    }

    private static void count() {
        EachIsHit x = new EachIsHit();
        x.price(0, 99);
        x.price(11, 0);
        x.tell(0, 0);
        x.rule(6, 0, 0, 0);
        due("40", x.count(0), 5);
        due("40", x.count(1), 3);
        due("40", x.count(2), 109);
        due("40", x.count(3), BAD);
        due("40", x.count(-1), BAD);
    }

    public static void main(String[] args) {
        sheet();
        cell();
        packs();
        unpacks();
        freqs();
        image();
        count();
        Due.end("SheetsTest");
    }
}
