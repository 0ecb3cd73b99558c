/** Promises 12 to 26: what hits. */
public final class HitsTest {
    private static final int NONE = -1, BAD = -2, FULL = -4, PLACE = -12;

    private static void due(String call, long got, long want) {
        Due.due(call, got, want);
    }

    private static EachIsHit with(int... sets) {
        EachIsHit x = new EachIsHit();
        for (int set : sets) {
            x.tell(0, set);
        }
        return x;
    }

    private static void dueAll(String call, EachIsHit x, int f, int... sets) {
        due(call + " size", x.size(f), sets.length);
        for (int k = 0; k < sets.length; k++) {
            due(call + " at " + k, x.at(f, k), sets[k]);
        }
    }

    private static void dueDual(String call, EachIsHit x, int f, int... sets) {
        due(call + " how many", x.dual(f, -1), sets.length);
        for (int k = 0; k < sets.length; k++) {
            due(call + " at " + k, x.dual(f, k), sets[k]);
        }
        due(call + " behind", x.dual(f, sets.length), PLACE);
    }

    private static void often() {
        EachIsHit x = with(6, 6, 6, 12, 2048);
        due("12", x.often(0, 1), 1);
        due("12 sets, not tallies", x.often(0, 2), 2);
        due("12", x.often(0, 11), 1);
        due("12", x.often(0, 0), 0);
        due("12", x.often(1, 0), 0);
        due("12", x.often(4, 0), BAD);
        due("12", x.often(-1, 0), BAD);
        due("12", x.often(0, 12), BAD);
        due("12", x.often(0, -1), BAD);
        due("13", x.top(0), 2);
        x.tell(0, 2);
        due("13 the least of like ones", x.top(0), 1);
        due("13", x.top(1), NONE);
        x.tell(1, 0);
        due("13 the empty set has none", x.top(1), NONE);
        x.tell(1, 2048);
        due("13", x.top(1), 11);
        due("13", x.top(4), BAD);
        due("13", x.top(-1), BAD);
    }

    private static void lean() {
        EachIsHit x = with(7, 3, 3, 3, 12, 1, 15, 12);
        due("14", x.isSimple(0), 0);
        due("14 empty", x.isSimple(1), 1);
        due("14", x.isSimple(4), BAD);
        due("14", x.isSimple(-1), BAD);
        due("15", x.lean(4), BAD);
        due("15", x.lean(-1), BAD);
        due("15", x.lean(0), 3);
        dueAll("15", x, 0, 12, 1);
        due("15 tallies", x.tally(0, 12), 2);
        due("14", x.isSimple(0), 1);
        due("15", x.lean(0), 0);
        x.tell(0, 0);
        due("14 the empty set is a part of each", x.isSimple(0), 0);
        due("15", x.lean(0), 2);
        dueAll("15", x, 0, 0);
        due("14", x.isSimple(0), 1);
    }

    private static void tests() {
        EachIsHit x = with(3, 5);
        int[][] rows = {
            // set, then what each test answers
            {0, 0, 0, 1, 1, 0, 0}, {1, 1, 1, 1, 1, 1, 0}, {2, 0, 0, 1, 1, 0, 0}, {3, 1, 0, 0, 1, 0, 1},
            {4, 0, 0, 1, 1, 0, 0}, {5, 1, 0, 0, 1, 0, 1}, {6, 1, 1, 1, 0, 1, 0}, {7, 1, 0, 0, 0, 0, 0},
            {9, 1, 0, 1, 0, 1, 0}, {4095, 1, 0, 0, 0, 0, 0},
        };
        for (int[] row : rows) {
            for (int test = 0; test < 6; test++) {
                due("16 test " + test + " of " + row[0], x.test(0, test, row[0]), row[test + 1]);
            }
        }
        int[] byNone = {1, 0, 1, 0, 1, 0};
        int[] byEmpty = {0, 0, 0, 0, 0, 0};
        x.tell(2, 0);
        for (int test = 0; test < 6; test++) {
            due("16 empty family, test " + test, x.test(1, test, 4), byNone[test]);
            due("16 family of the empty set, test " + test, x.test(2, test, 4), byEmpty[test]);
        }
        due("16 the empty one is least", x.test(1, 1, 0), 1);
        due("16 the empty one is a part", x.test(2, 3, 0), 1);
        due("16 the empty one is one of it", x.test(2, 5, 0), 1);
        due("16", x.test(4, 0, 0), BAD);
        due("16", x.test(-1, 0, 0), BAD);
        due("16", x.test(0, 6, 0), BAD);
        due("16", x.test(0, -1, 0), BAD);
        due("16", x.test(0, 0, 4096), BAD);
        due("16", x.test(0, 0, -1), BAD);
    }

    private static void counted() {
        EachIsHit x = with(3, 5);
        // With point 0 there are 10 others for one of two more points; without it both 1 and 2 are had.
        due("17 hits", x.counted(0, 0, 0, 2), 11 + 1);
        due("17 hits not", x.counted(0, 0, 1, 2), 66 - 12);
        due("17 least", x.counted(0, 1, 0, 1), 1);
        due("17 least", x.counted(0, 1, 0, 2), 1);
        due("17 least", x.counted(0, 1, 0, 3), 0);
        due("17 has none as a part", x.counted(0, 2, 0, 2), 66 - 2);
        due("17 is a part", x.counted(0, 3, 0, 1), 3);
        due("17 is a part", x.counted(0, 3, 1, 1), 9);
        // Odd with both: point 0 alone or points 1 and 2 of the first three; the rest is free.
        due("17 odd", x.counted(0, 4, 0, 2), 9 + 1);
        due("17 is one", x.counted(0, 5, 0, 2), 2);
        due("17 is one", x.counted(0, 5, 1, 2), 64);
        int[] choices = {1, 12, 66, 220, 495, 792, 924, 792, 495, 220, 66, 12, 1};
        for (int n = 0; n <= 12; n++) {
            due("17 all hit none", x.counted(1, 0, 0, n), choices[n]);
            due("17 all hit none", x.counted(1, 0, 1, n), 0);
            due("17 all are parts", x.counted(1, 3, 1, n), choices[n]);
        }
        due("17", x.counted(4, 0, 0, 0), BAD);
        due("17", x.counted(-1, 0, 0, 0), BAD);
        due("17", x.counted(0, 6, 0, 0), BAD);
        due("17", x.counted(0, -1, 0, 0), BAD);
        due("17", x.counted(0, 0, 2, 0), BAD);
        due("17", x.counted(0, 0, -1, 0), BAD);
        due("17", x.counted(0, 0, 0, 13), BAD);
        due("17", x.counted(0, 0, 0, -1), BAD);
    }

    private static void dual() {
        EachIsHit x = with(3, 6, 12);
        dueDual("18", x, 0, 5, 6, 10);
        dueDual("18 of none", x, 1, 0);
        x.tell(1, 0);
        x.tell(1, 5);
        dueDual("18 of the empty set", x, 1);
        x.tell(2, 3072);
        x.tell(2, 192);
        dueDual("18 high points", x, 2, 1088, 1152, 2112, 2176);
        due("18", x.dual(0, -2), PLACE);
        due("18", x.dual(0, Integer.MIN_VALUE), PLACE);
        due("18", x.dual(0, Integer.MAX_VALUE), PLACE);
        due("18", x.dual(4, 0), BAD);
        due("18", x.dual(-1, -2), BAD);
        x.make(3, 0, 8, 1);
        dueDual("18", x, 3, 255);
    }

    private static void into() {
        EachIsHit x = with(3, 6, 12);
        x.tell(1, 77);
        due("19", x.into(0, 1), 3);
        dueAll("19", x, 1, 5, 6, 10);
        due("19 tally", x.tally(1, 5), 1);
        due("19 onto itself", x.into(1, 1), 3);
        dueAll("19", x, 1, 3, 6, 12);
        due("19", x.into(4, 0), BAD);
        due("19", x.into(0, 4), BAD);
        due("19", x.into(-1, 0), BAD);
        due("19", x.into(0, -1), BAD);
        x.make(2, 1, 6, 0);
        due("19 64 are too many", x.into(2, 1), FULL);
        dueAll("19 refused", x, 1, 3, 6, 12);
        x.make(2, 1, 5, 0);
        due("19", x.into(2, 1), 32);
        x.wipe(2);
        x.tell(2, 0);
        due("19 none", x.into(2, 1), 0);
        due("19 none", x.size(1), 0);
        due("19 just the empty one", x.into(1, 1), 1);
        dueAll("19", x, 1, 0);
    }

    private static void verdict() {
        EachIsHit x = with(3, 6, 12);
        x.tell(1, 10);
        due("20 one lacks", x.verdict(0, 1, 0), 3);
        due("20 the first that lacks", x.verdict(0, 1, 1), 5);
        x.tell(1, 6);
        x.tell(1, 5);
        due("20", x.verdict(0, 1, 0), 0);
        due("20", x.verdict(0, 1, 1), NONE);
        x.tell(1, 15);
        x.tell(1, 7);
        due("20 not least", x.verdict(0, 1, 0), 2);
        due("20 the first in order", x.verdict(0, 1, 1), 15);
        x.tell(1, 3);
        x.tell(1, 1);
        due("20 hits not", x.verdict(0, 1, 0), 1);
        due("20 the first in order", x.verdict(0, 1, 1), 3);
        due("20 by itself", x.verdict(0, 0, 0), 1);
        due("20 none by none", x.verdict(2, 3, 0), 3);
        due("20 none by none", x.verdict(2, 3, 1), 0);
        due("20", x.verdict(4, 0, 0), BAD);
        due("20", x.verdict(-1, 0, 0), BAD);
        due("20", x.verdict(0, 4, 0), BAD);
        due("20", x.verdict(0, -1, 0), BAD);
        due("20", x.verdict(0, 0, 2), BAD);
        due("20", x.verdict(0, 0, -1), BAD);
    }

    private static void tree() {
        // 7 goes, as 3 is a part of it. Node 0: 3, 6; at 1. Node 1: none. Node 2: 1, 4; at 0. Node 3: 4; at 2.
        // Node 4: none. Node 5: the empty one. Node 6: the empty one.
        EachIsHit x = with(7, 3, 6);
        int[][] nodes = {
            {1, 2, 0, 0}, {NONE, 0, 1, 2}, {0, 2, 1, 0}, {2, 1, 2, 1}, {NONE, 0, 3, 5}, {NONE, 1, 3, 1}, {NONE, 1, 2, 0},
        };
        due("21 nodes", x.tree(0, 0), nodes.length);
        due("21 depth", x.tree(0, 1), 3);
        due("21 leaves with no sets", x.tree(0, 2), 2);
        for (int i = 0; i < nodes.length; i++) {
            for (int what = 0; what < 4; what++) {
                due("22 node " + i + " what " + what, x.node(0, i, what), nodes[i][what]);
            }
        }
        due("22", x.node(0, nodes.length, 0), PLACE);
        due("22", x.node(0, -1, 0), PLACE);
        due("22", x.node(0, Integer.MAX_VALUE, 0), PLACE);
        due("22", x.node(0, Integer.MIN_VALUE, 0), PLACE);
        due("22", x.node(0, 99, 4), BAD);
        due("22", x.node(0, 0, -1), BAD);
        due("22", x.node(4, 0, 0), BAD);
        due("22", x.node(-1, 0, 0), BAD);
        due("21", x.tree(4, 0), BAD);
        due("21", x.tree(-1, 0), BAD);
        due("21", x.tree(0, 3), BAD);
        due("21", x.tree(0, -1), BAD);
        due("21 none", x.tree(1, 0), 1);
        due("21 none", x.tree(1, 1), 0);
        due("21 none", x.tree(1, 2), 1);
        x.tell(1, 0);
        due("21 the empty set", x.tree(1, 0), 1);
        due("21 the empty set", x.tree(1, 2), 0);
        due("22 the empty set", x.node(1, 0, 0), NONE);
        due("22 the empty set", x.node(1, 0, 1), 1);
        // 5 and 6 without the point that both have: neither becomes a part of the other one.
        x.tell(2, 5);
        x.tell(2, 6);
        due("22 both stay", x.node(2, 2, 1), 2);
        x.make(3, 0, 12, 1);
        due("21 twelve deep", x.tree(3, 0), 25);
        due("21 twelve deep", x.tree(3, 1), 12);
        due("21 twelve deep", x.tree(3, 2), 1);
        due("22 twelve deep", x.node(3, 12, 3), 4095);
        due("22 behind", x.node(3, 13, 1), 1);
        due("22 behind", x.node(3, 13, 2), 12);
    }

    private static void keys() {
        EachIsHit x = with(1, 2, 4, 7);
        // Apart by 3, 5, 6, 6, 5, 3: two of the three points tell all apart.
        due("23", x.keys(0, -1), 3);
        due("23", x.keys(0, 0), 3);
        due("23", x.keys(0, 1), 5);
        due("23", x.keys(0, 2), 6);
        due("23", x.keys(0, 3), PLACE);
        due("23", x.keys(0, -2), PLACE);
        due("23", x.keys(4, -1), BAD);
        due("23", x.keys(-1, -1), BAD);
        due("23 none", x.keys(1, -1), 1);
        due("23 none", x.keys(1, 0), 0);
        x.tell(1, 9);
        due("23 one", x.keys(1, -1), 1);
        due("23 one", x.keys(1, 0), 0);
        x.tell(1, 9);
        x.tell(1, 10);
        due("23 two", x.keys(1, -1), 2);
        due("23 two", x.keys(1, 0), 1);
        due("23 two", x.keys(1, 1), 2);
    }

    private static void border() {
        EachIsHit x = with(7, 7, 7, 5, 12);
        due("24", x.support(0, 0), 5);
        due("24", x.support(0, 5), 4);
        due("24", x.support(0, 4), 5);
        due("24", x.support(0, 8), 1);
        due("24", x.support(0, 16), 0);
        due("24", x.support(4, 0), BAD);
        due("24", x.support(-1, 0), BAD);
        due("24", x.support(0, 4096), BAD);
        due("24", x.support(0, -1), BAD);
        int[][] up = {{4095}, {7, 12}, {7}, {7}, {5}, {4}, {}};
        int[][] down = {
            {}, {9, 10, 16, 32, 64, 128, 256, 512, 1024, 2048}, {8, 16, 32, 64, 128, 256, 512, 1024, 2048},
            {8, 16, 32, 64, 128, 256, 512, 1024, 2048}, {2, 8, 16, 32, 64, 128, 256, 512, 1024, 2048},
            {1, 2, 8, 16, 32, 64, 128, 256, 512, 1024, 2048}, {0},
        };
        for (int t = 0; t < up.length; t++) {
            dueSide("25 up at " + t, x, t, 0, up[t]);
            dueSide("25 down at " + t, x, t, 1, down[t]);
        }
        dueSide("25 up at 4000", x, 4000, 0);
        dueSide("25 down at 4000", x, 4000, 1, 0);
        due("25", x.border(0, 1, 0, -2), PLACE);
        due("25", x.border(4, 1, 0, -2), BAD);
        due("25", x.border(-1, 1, 0, -1), BAD);
        due("25", x.border(0, -1, 0, -1), BAD);
        due("25", x.border(0, 4001, 0, -1), BAD);
        due("25", x.border(0, 1, 2, -1), BAD);
        due("25", x.border(0, 1, -1, -1), BAD);
        EachIsHit y = with(4032, 2080);
        dueSide("25 high points", y, 1, 0, 2080, 4032);
        dueSide("25 high points", y, 2, 0, 2048);
    }

    private static void dueSide(String call, EachIsHit x, int t, int side, int... sets) {
        due(call + " how many", x.border(0, t, side, -1), sets.length);
        for (int k = 0; k < sets.length; k++) {
            due(call + " at " + k, x.border(0, t, side, k), sets[k]);
        }
        due(call + " behind", x.border(0, t, side, sets.length), PLACE);
    }

    private static void make() {
        EachIsHit x = with(9, 9, 10);
        due("26", x.make(0, 0, 4, 2), 6);
        dueAll("26 how 0", x, 0, 3, 5, 6, 9, 10, 12);
        due("26 all that it held is gone", x.tally(0, 9), 1);
        due("26 how 0, none", x.make(0, 0, 3, 4), 0);
        due("26 how 0, the empty one", x.make(0, 0, 0, 0), 1);
        dueAll("26", x, 0, 0);
        due("26 how 0", x.make(0, 0, 12, 12), 1);
        dueAll("26", x, 0, 4095);
        due("26 how 0", x.make(0, 0, 9, 2), 36);
        due("26 how 0, full", x.make(0, 0, 10, 2), FULL);
        due("26 refused", x.size(0), 36);
        due("26 how 1", x.make(0, 1, 3, -7), 3);
        dueAll("26 how 1", x, 0, 3, 12, 48);
        due("26 how 1", x.make(0, 1, 6, 99), 6);
        due("26 how 1", x.make(0, 1, 7, 0), BAD);
        due("26 how 2", x.make(0, 2, 5, 3), 3);
        dueAll("26 how 2", x, 0, 7, 14, 28);
        due("26 how 2", x.make(0, 2, 12, 12), 1);
        dueAll("26 how 2", x, 0, 4095);
        due("26 how 2, none", x.make(0, 2, 2, 3), 0);
        due("26 how 3", x.make(0, 3, 4, 2), 4);
        dueAll("26 how 3", x, 0, 3, 6, 12, 9);
        due("26 how 3, like ones", x.make(0, 3, 3, 12), 1);
        due("26 how 3, like ones", x.tally(0, 7), 3);
        due("26 how 3, none", x.make(0, 3, 0, 1), 0);
        due("26 how 4", x.make(0, 4, 5, -1), 5);
        dueAll("26 how 4", x, 0, 1057, 2114, 132, 264, 528);
        due("26 how 4", x.make(0, 4, 1, 0), 1);
        dueAll("26 how 4", x, 0, 4095);
        due("26 how 4", x.make(0, 4, 12, 0), 12);
        due("26 how 4, none", x.make(0, 4, 0, 0), 0);
        int[][] bad = {
            {4, 0, 1, 1}, {-1, 0, 1, 1}, {0, 5, 1, 1}, {0, -1, 1, 1}, {0, 0, 13, 1}, {0, 0, -1, 1}, {0, 0, 1, 13},
            {0, 0, 1, -1}, {0, 1, -1, 1}, {0, 2, 13, 1}, {0, 2, -1, 1}, {0, 2, 1, 0}, {0, 2, 1, 13}, {0, 3, 13, 1},
            {0, 3, -1, 1}, {0, 3, 1, 0}, {0, 3, 1, 13}, {0, 4, 13, 1}, {0, 4, -1, 1},
        };
        for (int[] b : bad) {
            due("26 bad", x.make(b[0], b[1], b[2], b[3]), BAD);
        }
    }

    public static void main(String[] args) {
        often();
        lean();
        tests();
        counted();
        dual();
        into();
        verdict();
        tree();
        keys();
        border();
        make();
        Due.end("HitsTest");
    }
}
