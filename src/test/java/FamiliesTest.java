/** Promises 1 to 11: prices, families, what is undone. */
public final class FamiliesTest {
    private static final int NONE = -1, BAD = -2, STATE = -3, FULL = -4, NOTHING = -11, PLACE = -12;

    private static void due(String call, long got, long want) {
        Due.due(call, got, want);
    }

    private static void newObject() {
        EachIsHit x = new EachIsHit();
        for (int f = 0; f < 4; f++) {
            due("1 size", x.size(f), 0);
            due("1 read", x.read(f, 0), NOTHING);
        }
        for (int p = 0; p < 12; p++) {
            due("1 priceOf", x.priceOf(p), 1);
        }
        due("1 rules", x.count(0), 4);
        due("1 acts", x.count(1), 0);
        due("1 prices", x.count(2), 12);
        due("1 undo", x.undo(), NONE);
        due("1 back", x.back(), STATE);
        for (int r = 0; r < 5; r++) {
            due("1 worth", x.worth(r, 6), new int[] {2, 2, 1, 6, BAD}[r]);
        }
    }

    private static void price() {
        EachIsHit x = new EachIsHit();
        due("2", x.price(0, 99), 1);
        due("2", x.price(0, 0), 99);
        due("2 as it was", x.price(0, 0), 0);
        due("2 that is not remembered", x.count(1), 2);
        due("2", x.price(11, 5), 1);
        due("2", x.price(-1, 5), BAD);
        due("2", x.price(12, 5), BAD);
        due("2", x.price(3, -1), BAD);
        due("2", x.price(3, 100), BAD);
        due("2 refused", x.priceOf(3), 1);
        due("2 refused", x.count(1), 3);
        due("3", x.priceOf(11), 5);
        due("3", x.priceOf(0), 0);
        due("3", x.priceOf(-1), BAD);
        due("3", x.priceOf(12), BAD);
        due("3", x.priceOf(Integer.MIN_VALUE), BAD);
    }

    private static void tell() {
        EachIsHit x = new EachIsHit();
        due("4", x.tell(0, 5), 1);
        due("4", x.tell(0, 0), 1);
        due("4", x.tell(0, 5), 2);
        due("4", x.tell(0, 4095), 1);
        due("4 its place stays", x.at(0, 0), 5);
        due("4 the others are apart", x.size(1), 0);
        due("4", x.tell(4, 5), BAD);
        due("4", x.tell(-1, 5), BAD);
        due("4", x.tell(0, 4096), BAD);
        due("4", x.tell(0, -1), BAD);
        for (int s = 0; s < 40; s++) {
            due("4", x.tell(1, s), 1);
        }
        due("4 full", x.tell(1, 40), FULL);
        due("4 full", x.size(1), 40);
        due("4 full, BAD first", x.tell(1, 4096), BAD);
        due("4 not full for what it holds", x.tell(1, 39), 2);
        for (int t = 2; t <= 99; t++) {
            due("4", x.tell(1, 0), t);
        }
        int known = x.count(1);
        due("4", known, 20);
        due("4 99 stays", x.tell(1, 0), 99);
        due("4 which is not remembered", x.undo(), 19);
        due("4", x.tally(1, 0), 98);
    }

    private static void take() {
        EachIsHit x = new EachIsHit();
        x.tell(2, 1);
        x.tell(2, 2);
        x.tell(2, 3);
        x.tell(2, 2);
        due("5", x.take(2, 2), 1);
        due("5", x.take(2, 2), 0);
        due("5 gone", x.take(2, 2), NONE);
        due("5", x.take(1, 1), NONE);
        due("5 refused is not remembered", x.count(1), 6);
        due("5 the others stay in order", x.at(2, 0), 1);
        due("5 the others stay in order", x.at(2, 1), 3);
        due("5", x.size(2), 2);
        due("5", x.take(4, 1), BAD);
        due("5", x.take(-1, 1), BAD);
        due("5", x.take(2, 4096), BAD);
        due("5", x.take(2, -1), BAD);
        due("6", x.tally(2, 2), 0);
        due("6", x.tally(2, 3), 1);
        due("6", x.tally(4, 3), BAD);
        due("6", x.tally(-1, 3), BAD);
        due("6", x.tally(2, -1), BAD);
        due("6", x.tally(2, 4096), BAD);
        due("5 comes last then", x.tell(2, 1), 2);
        due("5 comes last then", x.tell(2, 2), 1);
        due("7", x.at(2, 2), 2);
        due("7", x.at(2, 3), PLACE);
        due("7", x.at(2, -1), PLACE);
        due("7", x.at(2, Integer.MAX_VALUE), PLACE);
        due("7", x.at(4, 0), BAD);
        due("7", x.at(-1, 99), BAD);
        due("8", x.size(2), 3);
        due("8", x.size(3), 0);
        due("8", x.size(4), BAD);
        due("8", x.size(-1), BAD);
    }

    private static void wipeAndCopy() {
        EachIsHit x = new EachIsHit();
        x.tell(0, 9);
        x.tell(0, 4);
        x.tell(0, 9);
        due("9 refused forgets nothing", x.wipe(4), BAD);
        due("9", x.wipe(-1), BAD);
        due("9", x.count(1), 3);
        due("9", x.wipe(1), 0);
        due("9 forgets all, even if it held none", x.count(1), 0);
        x.tell(1, 7);
        due("10 refused forgets nothing", x.copy(0, 4), BAD);
        due("10", x.copy(4, 0), BAD);
        due("10", x.copy(-1, 0), BAD);
        due("10", x.copy(0, -1), BAD);
        due("10", x.count(1), 1);
        due("10", x.copy(0, 1), 2);
        due("10 forgets", x.count(1), 0);
        due("10 order", x.at(1, 0), 9);
        due("10 order", x.at(1, 1), 4);
        due("10 what it held is gone", x.tally(1, 7), 0);
        due("10 tallies", x.tally(1, 9), 2);
        x.tell(0, 1);
        due("10 apart from then on", x.size(1), 2);
        due("10 one and the same", x.copy(0, 0), 3);
        due("10 one and the same", x.at(0, 2), 1);
        due("10 one and the same forgets", x.undo(), NONE);
        due("9", x.wipe(0), 3);
        due("9", x.size(0), 0);
        due("9", x.tally(0, 9), 0);
        due("9 others stay", x.size(1), 2);
    }

    private static void undo() {
        EachIsHit x = new EachIsHit();
        x.tell(0, 1);
        x.tell(0, 2);
        x.price(4, 50);
        x.take(0, 1);
        due("11", x.undo(), 3);
        due("11 it comes last", x.at(0, 0), 2);
        due("11 it comes last", x.at(0, 1), 1);
        due("11", x.undo(), 2);
        due("11", x.priceOf(4), 1);
        due("11", x.undo(), 1);
        due("11", x.tally(0, 2), 0);
        due("11", x.undo(), 0);
        due("11", x.size(0), 0);
        due("11", x.undo(), NONE);
        for (int i = 0; i < 25; i++) {
            x.price(0, 10 + i);
        }
        due("11 twenty at most", x.count(1), 20);
        for (int left = 19; left >= 0; left--) {
            due("11", x.undo(), left);
        }
        due("11 the oldest were forgotten", x.priceOf(0), 14);
        due("11", x.undo(), NONE);
        x.tell(3, 8);
        x.tell(3, 8);
        x.take(3, 8);
        due("11", x.undo(), 2);
        due("11 tally", x.tally(3, 8), 2);
    }

    /** Which calls forget, and that those which are refused don't. */
    private static void forgets() {
        EachIsHit x = new EachIsHit();
        x.sheet(0, 1, 1);
        x.sheet(1, 0, 1);
        x.price(0, 5);
        x.lean(4);
        x.into(0, 4);
        x.make(0, 5, 1, 1);
        x.make(0, 0, 12, 6);
        x.unpacks(0, 0, -1);
        x.unpacks(1, 0, 1);
        x.unpacks(2, 0, 1);
        x.back();
        due("refused ones forget nothing", x.count(1), 1);
        due("lean", x.lean(0), 0);
        due("lean forgets", x.count(1), 0);
        x.price(0, 6);
        due("into", x.into(0, 1), 1);
        due("into forgets", x.count(1), 0);
        x.price(0, 7);
        due("make", x.make(0, 1, 6, 0), 6);
        due("make forgets", x.count(1), 0);
        x.price(0, 8);
        due("into, full", x.into(0, 1), FULL);
        due("into, full, forgets nothing", x.count(1), 1);
        due("unpacks", x.unpacks(0, 1, 0), 0);
        due("unpacks forgets", x.count(1), 0);
        x.price(0, 9);
        due("unpacks", x.unpacks(0, 1, 6), PLACE);
        due("unpacks forgets where PLACE is answered", x.count(1), 0);
        x.price(0, 10);
        due("image", x.image(), 7);
        due("image forgets nothing", x.count(1), 1);
        due("back", x.back(), 7);
        due("back forgets", x.count(1), 0);
        x.price(0, 11);
        x.rule(0, 0, 0, 0);
        x.sheet(0, 1, 40);
        x.packs(0, 0);
        x.freqs(0, 0);
        due("others forget nothing", x.count(1), 1);
    }

    public static void main(String[] args) {
        newObject();
        price();
        tell();
        take();
        wipeAndCopy();
        undo();
        forgets();
        Due.end("FamiliesTest");
    }
}
