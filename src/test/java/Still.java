import java.util.ArrayList;
import java.util.List;

/**
 * Whether a call that is refused, or only asks, changes nothing: of two objects with the same past one gets the call,
 * the other one doesn't; then all that can be asked of both is asked. Each question has two new objects of its own, as
 * some change what they look at, and as an object is good for 512 calls.
 */
final class Still {
    private static final int MOST_CALLS = 512;
    private static final int MOST_PAST = 180;
    private static final int BAD = -2;

    /** Calls that an object has behind it, MOST_PAST of them at most. */
    interface Past {
        void on(EachIsHit x);
    }

    interface Call {
        long on(EachIsHit x);
    }

    /** A call with one argument left open. */
    interface CallWith {
        long on(EachIsHit x, int v);
    }

    private interface Question {
        void ask(EachIsHit x, List<Long> answers);
    }

    private static final Question[] QUESTIONS = {
        Still::askPrices, Still::askFamilies, Still::askRules, Still::askSheets, Still::askSorts, Still::askActs,
        Still::askImage,
    };

    private Still() {
    }

    /** A past of 48 calls, with something in each corner: family 2 is full, sheet 2 missing, nine acts are remembered. */
    static void busy(EachIsHit x) {
        x.make(2, 0, 9, 2);
        x.tell(2, 1);
        x.tell(2, 2);
        x.tell(2, 4);
        x.tell(2, 8);
        x.tell(0, 3);
        x.tell(0, 6);
        x.tell(0, 12);
        x.tell(1, 5);
        x.tell(1, 6);
        x.tell(1, 4095);
        x.tell(3, 0);
        x.tell(3, 7);
        for (int p = 0; p < 12; p++) {
            x.price(p, 8 * p);
        }
        x.rule(6, 0, 0, 0);
        x.rule(7, 0, 0, 0);
        x.rule(0, 1, 4, 0);
        x.sheet(0, 1, 3);
        x.cell(0, 0, 5 + (6L << 12) + (9L << 24) + (4095L << 36));
        x.cell(0, 1, -1L);
        x.cell(0, 2, Long.MIN_VALUE);
        x.sheet(1, 0, 13);
        x.cell(1, 0, 77);
        x.cell(1, 12, -8);
        x.sheet(3, 1, 0);
        x.image();
        x.copy(0, 0);
        x.price(0, 99);
        x.price(11, 0);
        x.tell(0, 3);
        x.tell(0, 24);
        x.take(1, 6);
        x.tell(1, 9);
        x.take(3, 7);
        x.rule(2, 4, 0, -9);
        x.tell(3, 4000);
        x.price(0, 98);
    }

    static EachIsHit busyOne() {
        EachIsHit x = new EachIsHit();
        busy(x);
        return x;
    }

    private static Past busyAnd(Past more) {
        return x -> {
            busy(x);
            more.on(x);
        };
    }

    /** On an object with this past alone the call answers so, and changes nothing. */
    static void after(Past past, String name, Call call, long want) {
        for (Question question : QUESTIONS) {
            EachIsHit x = new EachIsHit();
            EachIsHit y = new EachIsHit();
            past.on(x);
            past.on(y);
            Due.due(name, call.on(x), want);
            List<Long> ofX = new ArrayList<>();
            List<Long> ofY = new ArrayList<>();
            question.ask(x, ofX);
            question.ask(y, ofY);
            Due.holds(name + " changes nothing, but " + ofX + " was " + ofY, ofX.equals(ofY));
            Due.holds(name + " leaves calls enough for a past", ofX.size() <= MOST_CALLS - MOST_PAST);
        }
    }

    /** The same for an object that has much behind it already. */
    static void afterMore(Past past, String name, Call call, long want) {
        after(busyAnd(past), name, call, want);
    }

    /** The same for the object that has much behind it. */
    static void is(String name, Call call, long want) {
        after(Still::busy, name, call, want);
    }

    /** The call only asks: what it answers is left open here. */
    static void asked(String name, Call call) {
        is(name, call, call.on(busyOne()));
    }

    /** The call is BAD on a new object and on one that has much behind it, and changes nothing. */
    static void bad(String name, Call call) {
        after(x -> { }, name + " on a new object", call, BAD);
        is(name, call, BAD);
    }

    /** An argument is good from low to high: those beside it, and those far away, are BAD. */
    static void bounds(String name, int low, int high, CallWith call) {
        for (int v : new int[] {low - 1, high + 1, Integer.MIN_VALUE, Integer.MAX_VALUE}) {
            bad(name + " " + v, x -> call.on(x, v));
        }
        for (int v : new int[] {low, high}) {
            Due.holds(name + " " + v + " isn't BAD on a new object", call.on(new EachIsHit(), v) != BAD);
            Due.holds(name + " " + v + " isn't BAD", call.on(busyOne(), v) != BAD);
        }
    }

    private static void askPrices(EachIsHit x, List<Long> answers) {
        for (int p = 0; p < 12; p++) {
            answers.add((long) x.priceOf(p));
        }
        for (int what = 0; what < 3; what++) {
            answers.add((long) x.count(what));
        }
    }

    private static void askFamilies(EachIsHit x, List<Long> answers) {
        for (int f = 0; f < 4; f++) {
            int held = x.size(f);
            answers.add((long) held);
            for (int k = 0; k < held; k++) {
                int set = x.at(f, k);
                answers.add((long) set);
                answers.add((long) x.tally(f, set));
            }
        }
    }

    private static void askRules(EachIsHit x, List<Long> answers) {
        int rules = x.count(0);
        answers.add((long) rules);
        for (int r = 0; r < rules; r++) {
            answers.add((long) x.worth(r, 0));
            answers.add((long) x.worth(r, 4095));
            for (int p = 0; p < 12; p++) {
                answers.add((long) x.worth(r, 1 << p));
            }
        }
    }

    private static void askSheets(EachIsHit x, List<Long> answers) {
        for (int s = 0; s < 4; s++) {
            for (int i = 0; i <= 40; i++) {
                answers.add(x.read(s, i));
            }
        }
    }

    private static void askSorts(EachIsHit x, List<Long> answers) {
        for (int s = 0; s < 4; s++) {
            answers.add((long) x.cell(s, 0, 1L << 40));
            answers.add(x.read(s, 0));
            answers.add((long) x.packs(s, 0));
        }
    }

    private static void askActs(EachIsHit x, List<Long> answers) {
        long left = 0;
        for (int i = 0; i < 21 && left >= 0; i++) {
            left = x.undo();
            answers.add(left);
            answers.add((long) x.count(2));
            for (int f = 0; f < 4; f++) {
                int held = x.size(f);
                answers.add((long) held);
                answers.add((long) x.at(f, held - 1));
                answers.add((long) x.support(f, 0));
            }
        }
    }

    private static void askImage(EachIsHit x, List<Long> answers) {
        answers.add((long) x.back());
        askPrices(x, answers);
        askFamilies(x, answers);
    }
}
