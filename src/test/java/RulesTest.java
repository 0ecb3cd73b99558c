/** Promises 27 to 31: rules. */
public final class RulesTest {
    private static final int NONE = -1, BAD = -2, FULL = -4, PLACE = -12;

    private static void due(String call, long got, long want) {
        Due.due(call, got, want);
    }

    private static void hows() {
        EachIsHit x = new EachIsHit();
        for (int p = 0; p < 12; p++) {
            x.price(p, 10 * (p % 5) + p);
        }
        due("27 how 0", x.rule(0, 0, 3, 99), 4);
        due("28 how 0", x.worth(4, 6), 2 + 6);
        due("27 how 1", x.rule(1, 3, 1, 99), 5);
        due("28 how 1", x.worth(5, 4095), 4095);
        due("28 how 1", x.worth(5, 6), 11 + 22);
        due("27 how 2", x.rule(2, 3, 99, -9), 6);
        due("28 how 2", x.worth(6, 100), -900);
        due("27 how 3", x.rule(3, 3, 99, 11), 7);
        due("28 how 3", x.worth(7, 4095), 2047);
        due("28 how 3", x.worth(7, 5), 5);
        due("27 how 4", x.rule(4, 3, 99, -11), 8);
        due("28 how 4", x.worth(8, 4095), 1);
        due("27 how 4", x.rule(4, 3, 99, 11), 9);
        due("28 how 4", x.worth(9, 4095), 2048);
        due("28 how 4", x.worth(9, 4094), 0);
        due("27 how 5", x.rule(5, 3, 0, 0), 10);
        due("28 how 5", x.worth(10, 7), 7);
        due("28 how 5", x.worth(10, 6), 2);
        due("27 how 8", x.rule(8, 3, 99, 99), 11);
        due("28 how 8", x.worth(11, 1), 4094);
        due("27", x.count(0), 12);
        due("27", x.rule(0, 0, 0, 0), FULL);
        due("27", x.rule(6, 0, 0, 0), FULL);
        due("27 BAD first", x.rule(9, 0, 0, 0), BAD);
        due("28", x.worth(1, 6), 33);
        due("28", x.worth(2, 6), 22);
        due("28", x.worth(2, 0), 0);
        due("28", x.worth(12, 0), BAD);
        due("28", x.worth(-1, 0), BAD);
        due("28", x.worth(0, 4096), BAD);
        due("28", x.worth(0, -1), BAD);
    }

    private static void asWhen() {
        EachIsHit x = new EachIsHit();
        x.price(0, 7);
        due("27 how 6", x.rule(6, -1, 99, -1), 4);
        due("27 how 7", x.rule(7, -1, 99, 2), 5);
        x.price(0, 50);
        due("28 prices as they were", x.worth(4, 3), 8);
        due("28 prices as they are", x.worth(1, 3), 51);
        due("28 the dearest as it is", x.worth(2, 3), 50);
        due("28 how 7", x.worth(5, 3), 0);
        x.tell(2, 6);
        x.tell(2, 6);
        x.tell(2, 9);
        due("28 the family as it is", x.worth(5, 3), 2);
        due("28 the family as it is", x.worth(5, 2), 1);
        due("28 the family as it is", x.worth(5, 16), 0);
        x.undo();
        x.undo();
        due("28 the family as it is", x.worth(5, 3), 1);
        x.undo();
        x.undo();
        due("28 prices as they are", x.worth(1, 3), 8);
    }

    private static void refused() {
        EachIsHit x = new EachIsHit();
        int[][] bad = {
            {-1, 0, 0, 0}, {9, 0, 0, 0}, {0, 4, 0, 0}, {0, 0, 4, 0}, {0, -1, 0, 0}, {0, 0, -1, 0}, {1, 4, 0, 0},
            {1, 0, 4, 0}, {2, 4, 0, 0}, {2, 0, 0, 10}, {2, 0, 0, -10}, {3, 4, 0, 0}, {3, 0, 0, 12}, {3, 0, 0, -1},
            {4, 4, 0, 0}, {4, 0, 0, 12}, {4, 0, 0, -12}, {5, 4, 0, 0}, {5, 0, 4, 0}, {5, 0, 0, 12}, {5, 0, 0, -1},
            {7, 0, 0, 4}, {7, 0, 0, -1}, {8, 4, 0, 0}, {8, -1, 0, 0},
        };
        for (int[] b : bad) {
            due("27 bad " + b[0], x.rule(b[0], b[1], b[2], b[3]), BAD);
        }
        due("27 nothing came", x.count(0), 4);
    }

    private static void wraps() {
        EachIsHit x = new EachIsHit();
        x.rule(2, 3, 0, 9);
        for (int r = 5; r < 12; r++) {
            due("27", x.rule(2, r - 1, 0, 9), r);
        }
        int want = 4095;
        for (int i = 0; i < 8; i++) {
            want *= 9;
        }
        due("28 ints wrap", x.worth(11, 4095), want);
        x.tell(0, 4095);
        x.tell(0, 4095);
        due("31 ints wrap", x.sums(0, 11), want * 2);
    }

    private static void deep() {
        EachIsHit x = new EachIsHit();
        for (int r = 4; r < 12; r++) {
            due("27", x.rule(r == 7 ? 8 : 0, r - 1, r - 1, 0), r);
        }
        due("28 doubled seven times, of the rest", x.worth(11, 4094), 16 * 8);
        due("28", x.worth(11, 1), 16 * 8 * 4094);
    }

    private static void best() {
        EachIsHit x = new EachIsHit();
        due("29 of none", x.best(0, 0, 0), 0);
        due("29 of none", x.best(0, 0, 1), 0);
        x.tell(0, 3);
        x.tell(0, 6);
        x.tell(0, 12);
        due("29 first of like ones", x.best(0, 0, 0), 5);
        due("29", x.best(0, 0, 1), 2);
        x.price(0, 9);
        due("29", x.best(0, 1, 0), 6);
        due("29", x.best(0, 1, 1), 2);
        x.rule(2, 3, 0, -1);
        due("29 below 0", x.best(0, 4, 0), 10);
        due("29 below 0", x.best(0, 4, 1), -10);
        due("29", x.best(4, 0, 0), BAD);
        due("29", x.best(-1, 0, 0), BAD);
        due("29", x.best(0, 5, 0), BAD);
        due("29", x.best(0, -1, 0), BAD);
        due("29", x.best(0, 0, 2), BAD);
        due("29", x.best(0, 0, -1), BAD);
        x.tell(0, 0);
        due("29 no dual", x.best(0, 0, 0), NONE);
        due("29 no dual", x.best(0, 0, 1), NONE);
        due("29 no dual, BAD first", x.best(0, 0, 2), BAD);
    }

    private static void ranked() {
        EachIsHit x = new EachIsHit();
        int[] sets = {12, 7, 1, 3, 8, 3, 0};
        for (int set : sets) {
            x.tell(1, set);
        }
        int[] byPoints = {0, 1, 8, 12, 3, 7};
        int[] byNumber = {0, 1, 3, 7, 8, 12};
        for (int k = 0; k < 6; k++) {
            due("30 by points", x.ranked(1, 0, k), byPoints[k]);
            due("30 by number", x.ranked(1, 3, k), byNumber[k]);
        }
        x.rule(2, 3, 0, -1);
        due("30 below 0", x.ranked(1, 4, 0), 12);
        x.rule(2, 3, 0, 0);
        for (int k = 0; k < 6; k++) {
            due("30 like ones as they came", x.ranked(1, 5, k), x.at(1, k));
        }
        due("30", x.ranked(1, 0, 6), PLACE);
        due("30", x.ranked(1, 0, -1), PLACE);
        due("30", x.ranked(0, 0, 0), PLACE);
        due("30", x.ranked(4, 0, -1), BAD);
        due("30", x.ranked(-1, 0, 0), BAD);
        due("30", x.ranked(1, 6, -1), BAD);
        due("30", x.ranked(1, -1, 0), BAD);
        due("31 as often as its tally", x.sums(1, 3), 12 + 7 + 1 + 3 + 8 + 3);
        due("31 of none", x.sums(0, 3), 0);
        due("31", x.sums(4, 0), BAD);
        due("31", x.sums(-1, 0), BAD);
        due("31", x.sums(1, 6), BAD);
        due("31", x.sums(1, -1), BAD);
    }

    public static void main(String[] args) {
        hows();
        asWhen();
        refused();
        wraps();
        deep();
        best();
        ranked();
        Due.end("RulesTest");
    }
}
