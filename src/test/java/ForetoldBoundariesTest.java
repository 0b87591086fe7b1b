import java.util.function.IntToLongFunction;

/** Sentences that name boundary cases of what is foretold: promises 17 to 26. */
public final class ForetoldBoundariesTest extends Sentences {
    private static final int[] NOT_ONE_OF_TWO = {LOW, -1, 2, HIGH};
    private static final int[] NO_DAYS = {LOW, -1, 7, HIGH};

    public static void main(String[] args) throws Exception {
        testAll(ForetoldBoundariesTest.class);
    }

    /** Answers of a call that asks for one of two numbers: both are told, any other number is OUTSIDE; with no ORDERS left NOT. */
    private static void isRefused(String call, IntToLongFunction ask) {
        for (int number : NOT_ONE_OF_TWO) is(call + " of " + number, ask.applyAsLong(number), OUTSIDE);
        for (int number = 0; number <= 1; number++) {
            if (ask.applyAsLong(number) < 0) isWrong(call + " of " + number + " was refused");
        }
        tell("free;" + NO_ORDERS);
        for (int number : NOT_ONE_OF_TWO) is(call + " of " + number + ", no ORDERS", ask.applyAsLong(number), OUTSIDE);
        for (int number = 0; number <= 1; number++) is(call + " of " + number + ", no ORDERS", ask.applyAsLong(number), NOT);
    }

    // ---- all that is FORETOLD

    @Says(promise = 17, words = "FORETOLD for the next WEEK, from what is there (nothing changes), all ORDERS being alike likely.")
    static void foretellingChangesNothing() {
        tell(PAIR);
        x.ready(0);
        x.deal(720);
        x.keep(1);
        for (int round = 0; round < 2; round++) {
            ratio("odds(1)", p -> x.odds(1, p), 1, 1);
            ratio("mean", p -> x.mean(p), 30, 1);
            is("safe()", x.safe(), 3);
            is("best(0)", x.best(0), 30);
            is("worst(0)", x.worst(0), 30);
            is("makeReady(3, 0)", x.makeReady(3, 0), 5040 * 30);
            ratio("fair(0, 3)", p -> x.fair(0, 3, p), 3, 7);
            ratio("beside(0, 1)", p -> x.beside(0, 1, p), 2, 7);
            ratio("across(0, 1)", p -> x.across(0, 1, p), 1, 49);
            is("waits(0)", x.waits(0), 13);
            int[] due = {2, 0, 1, 30, 3, 0, 0, 2, 0};
            for (int what = 0; what <= 8; what++) is("count(" + what + ")", x.count(what), due[what]);
            is("work(0, 5)", x.work(0, 5), 5);
            is("work(1, 5)", x.work(1, 5), 6);
            is("work(0, 6)", x.work(0, 6), 1);
        }
        is("undo()", x.undo(), 1);
        is("back(1)", x.back(1), 1);
    }

    @Says(promise = 17, words = "FORETOLD for the next WEEK, from what is there (nothing changes), all ORDERS being alike likely.")
    static void itIsForetoldFromWhatIsThereNow() {
        tell(PAIR);
        ratio("nothing is there", p -> x.odds(1, p), 1, 2);
        x.keep(0);
        x.ready(0);
        ratio("behind ready()", p -> x.odds(1, p), 1, 1);
        x.undo();
        ratio("behind undo()", p -> x.odds(1, p), 1, 2);
        dealt(1023456);
        ratio("behind deal()", p -> x.odds(1, p), 1, 1);
        x.back(0);
        ratio("behind back()", p -> x.odds(1, p), 1, 2);
        tell("ahead 0 1");
        ratio("behind a text", p -> x.odds(1, p), 1, 1);
        tell("free");
        ratio("behind another text", p -> x.odds(1, p), 1, 2);
    }

    @Says(promise = 18, words = "Parts are told in lowest terms: above (part 0), below (1).")
    static void partsAreInLowestTerms() {
        tell("work 0 98 20;work 1 0 20");
        ratio("of one in one: odds(0)", p -> x.odds(0, p), 1, 1);
        ratio("mean", p -> x.mean(p), 98, 1);
        tell("fast 0;feast 0 98 20;idle");
        ratio("of nothing: mean", p -> x.mean(p), 0, 1);
        ratio("fair(3, 7)", p -> x.fair(3, 7, p), 1, 1);
        tell("beside 0 1");
        ratio("of nothing: beside(0, 1)", p -> x.beside(0, 1, p), 0, 1);
        tell("first 2");
        ratio("of nothing: across(0, 2)", p -> x.across(0, 2, p), 0, 1);
        ratio("of nothing: fair(2, 1)", p -> x.fair(2, 1, p), 0, 1);
    }

    // ---- promise 17

    @Says(promise = 17, words = "ODDS that a WORK is done in it (once at least).")
    static void oddsFromNoneToOne() {
        tell("fast 0;feast 0 9 9;work 1 9 9;work 2 9 1;work 3 9 0;behind 2 1;behind 3 0");
        ratio("a FEAST on a FAST: odds(0)", p -> x.odds(0, p), 0, 1);
        ratio("behind none: odds(1)", p -> x.odds(1, p), 1, 1);
        ratio("behind one that keeps long: odds(2)", p -> x.odds(2, p), 1, 2);
        ratio("behind one that is never done: odds(3)", p -> x.odds(3, p), 0, 1);
        x.ready(0);
        ratio("its PART is there, and keeps long: odds(3)", p -> x.odds(3, p), 1, 1);
        for (int keeps = 0; keeps <= 8; keeps++) {
            anew("fast 0;feast 0 9 " + keeps + ";work 3 9 0;behind 1 0");
            x.ready(0);
            int places = Math.min(keeps, 7);
            ratio("it keeps " + keeps + " days", p -> x.odds(1, p), places == 7 ? 1 : places, places == 0 || places == 7 ? 1 : 7);
        }
        for (int keeps = 0; keeps <= 7; keeps++) {
            anew("work 0 9 " + keeps + ";work 3 9 0;behind 1 0");
            // Of the 42 pairs of places 7 - days are so many days apart, the one DAY ahead of the other.
            int above = 0;
            for (int days = 1; days <= Math.min(keeps, 6); days++) above += 7 - days;
            lowest("made in the WEEK, it keeps " + keeps, p -> x.odds(1, p), above, 42);
        }
    }

    private static void lowest(String call, IntToLongFunction ask, int above, int below) {
        int divisor = gcd(above, below);
        ratio(call, ask, above / divisor, below / divisor);
    }

    private static int gcd(int a, int b) {
        return b == 0 ? a : gcd(b, a % b);
    }

    @Says(promise = 17, words = "ODDS. UNKNOWN; OUTSIDE; NOT: there are no ORDERS.")
    static void oddsAreRefused() {
        for (int part : new int[] {LOW, -1, 0, 1, 2, HIGH}) is("no WORKS: odds(0, " + part + ")", x.odds(0, part), UNKNOWN);
        tell(PAIR);
        for (int w : new int[] {LOW, -1, 2, HIGH}) {
            for (int part : new int[] {-1, 0, 1, 2}) is("odds(" + w + ", " + part + ")", x.odds(w, part), UNKNOWN);
        }
        isRefused("odds(0, ..)", p -> x.odds(0, p));
        isRefusedWithoutOrders();
    }

    private static void isRefusedWithoutOrders() {
        for (int w : new int[] {-1, 2}) {
            for (int part : new int[] {-1, 0, 1, 2}) is("no ORDERS: odds(" + w + ", " + part + ")", x.odds(w, part), UNKNOWN);
        }
        is("no ORDERS: odds(1, 1)", x.odds(1, 1), NOT);
    }

    // ---- promise 18

    @Says(promise = 18, words = "MEAN of what is earned, as parts.")
    static void theLeastAndTheMostMean() {
        ratio("no WORKS", p -> x.mean(p), 0, 1);
        tell("work 0 0 20");
        ratio("of WORTH 0", p -> x.mean(p), 0, 1);
        tell("idle;double 6;" + "work 6 99 20;".repeat(5) + "feast 6 99 20");
        ratio("the most", p -> x.mean(p), 6 * 198, 1);
        tell("calendar;short 0;work 0 1 20");
        ratio("cut to nothing", p -> x.mean(p), 0, 1);
        tell("calendar;work 0 1 0;work 1 1 0;behind 1 0;" + ONE_ORDER);
        ratio("one ORDER, it spoils", p -> x.mean(p), 1, 1);
        tell("calendar;work 0 0 1;work 1 1 0;behind 1 0");
        ratio("below 1", p -> x.mean(p), 1, 7);
    }

    @Says(promise = 18, words = "MEAN. OUTSIDE; NOT: there are no ORDERS.")
    static void meanIsRefused() {
        isRefused("mean", p -> x.mean(p));
    }

    // ---- promise 19

    @Says(promise = 19, words = "SAFE: WORKS that are done in any ORDER.")
    static void noneToAllSixAreSafe() {
        is("no WORKS", x.safe(), 0);
        tell(SIX_WORKS);
        is("all six", x.safe(), 63);
        tell("fast 5");
        is("a FEAST on a FAST is not", x.safe(), 31);
        tell("behind 0 1;behind 1 2;behind 2 3;behind 3 4;behind 4 5");
        is("none", x.safe(), 0);
        x.ready(5);
        is("its PART keeps for one day", x.safe(), 0);
        tell("idle;work 0 1 6;work 1 1 1;behind 1 0");
        is("in half of the ORDERS", x.safe(), 1);
        x.ready(0);
        is("it is too old on the last day, if none is made ahead of it", x.safe(), 3);
        tell("idle;fast 0;feast 0 1 6;work 1 1 1;behind 1 0");
        x.ready(0);
        is("in all but those in which it is the last one", x.safe(), 0);
        tell("idle;feast 0 1 7;work 1 1 1;behind 1 0");
        x.ready(0);
        is("in all", x.safe(), 2);
        tell("idle;work 0 1 20;work 1 1 1;behind 1 0;ahead 1 0");
        is("in none", x.safe(), 1);
        tell("free;ahead 0 1");
        is("in all there are", x.safe(), 3);
    }

    @Says(promise = 19, words = "SAFE, by bits. NOT: there are no ORDERS.")
    static void safeIsRefused() {
        tell(NO_ORDERS);
        is("no WORKS", x.safe(), NOT);
        tell("work 0 1 1");
        is("a WORK", x.safe(), NOT);
        tell("free");
        is("safe()", x.safe(), 1);
    }

    // ---- promises 20, 21

    @Says(promise = 20, words = "BEST, WORST: what is earned at the most, the least; the first such ORDER.")
    static void ofAllAlikeTheFirstOrder() {
        is("no WORKS: best(0)", x.best(0), 0);
        is("best(1)", x.best(1), 0);
        is("worst(0)", x.worst(0), 0);
        is("worst(1)", x.worst(1), 0);
        tell(SIX_WORKS);
        is("all alike: best(0)", x.best(0), 6);
        is("best(1)", x.best(1), 0);
        is("worst(0)", x.worst(0), 6);
        is("worst(1)", x.worst(1), 0);
        tell("double 5;idle;" + "feast 5 99 0;".repeat(5) + "feast 5 99 0");
        is("the most there is: best(0)", x.best(0), 1188);
        is("worst(0)", x.worst(0), 1188);
    }

    @Says(promise = 20, words = "BEST, WORST: what is earned at the most, the least; the first such ORDER.")
    static void theBestIsTheVeryLastOrder() {
        // Each is BEHIND the one of the next DAY and its PART keeps a day: only 6543210 does all six, as 0 is behind 1.
        String works = "work 6 1 1;work 5 1 1;work 4 1 1;work 3 1 1;work 2 1 1;work 1 1 1";
        tell(works + ";behind 1 0;behind 2 1;behind 3 2;behind 4 3;behind 5 4");
        is("0 is at the one end or the other: best(0)", x.best(0), 6);
        is("best(1)", x.best(1), x.which(654321));
        tell("ahead 1 0");
        is("0 is behind 1: best(0)", x.best(0), 6);
        is("best(1)", x.best(1), 2519);
        is("best(1)", x.best(1), x.which(6543210));
        is("worst(0)", x.worst(0), 1);
        is("the first is the worst: worst(1)", x.worst(1), 0);
    }

    @Says(promise = 21, words = "BEST, WORST: what is earned at the most, the least; the first such ORDER.")
    static void theWorstIsTheVeryLastOrder() {
        // Only where 6, 5, 4, 3, 2 come in this order no PART is there in time, and 0 is behind 1 and 1 behind 2.
        tell("work 2 1 20;work 3 1 20;work 4 1 20;work 5 1 20;work 6 1 20");
        tell("behind 1 0;behind 2 1;behind 3 2;behind 4 3;ahead 1 0;ahead 2 1");
        is("worst(0)", x.worst(0), 1);
        tell("free;" + "idle;work 5 1 20;work 6 1 20;behind 1 0;ahead 5 4;ahead 4 3;ahead 3 2;ahead 2 1;ahead 1 0");
        is("7 ORDERS", x.orders(), 7);
        is("only the last one, in which 6 is ahead of 5: worst(0)", x.worst(0), 1);
        is("worst(1)", x.worst(1), 6);
        is("best(0)", x.best(0), 2);
        is("best(1)", x.best(1), 0);
    }

    @Says(promise = 20, words = "BEST: how much (what 0), the ORDER (1). OUTSIDE; NOT: there are no ORDERS.")
    static void bestIsRefused() {
        isRefused("best", what -> x.best(what));
    }

    @Says(promise = 21, words = "WORST: how much (what 0), the ORDER (1). OUTSIDE; NOT: there are no ORDERS.")
    static void worstIsRefused() {
        isRefused("worst", what -> x.worst(what));
    }

    // ---- promise 22

    private static void readied(int k, int total, int set) {
        is("makeReady(" + k + ", 0)", x.makeReady(k, 0), total);
        is("makeReady(" + k + ", 1)", x.makeReady(k, 1), set);
    }

    /** Three WORKS, each BEHIND a FEAST that is never done. */
    private static final String THREE_WAIT = "fast 4;feast 4 1 20;feast 4 2 20;feast 4 3 20;work 3 1 1;work 5 2 1;work 6 4 1";

    @Says(promise = 22, words = "READY: at most k PARTS (1 .. 3), of WORKS whose PART is not there, to be MADE READY,"
        + " so that most is earned in all ORDERS together: how much in all;")
    static void atMostKPartsAreMadeReady() {
        tell(THREE_WAIT);
        tell("behind 3 0;behind 4 1;behind 5 2");
        readied(1, 5040 * 4, 4);
        readied(2, 5040 * 6, 6);
        readied(3, 5040 * 7, 7);
        is("nothing was made ready: count(4)", x.count(4), 0);
        tell("double 3;double 5;double 6");
        readied(3, 5040 * 14, 7);
        tell("idle;work 0 7 20");
        for (int k = 1; k <= 3; k++) readied(k, 5040 * 7, 0);
        tell("idle");
        for (int k = 1; k <= 3; k++) readied(k, 0, 0);
        tell("double 0;" + "work 0 99 20;".repeat(5) + "work 0 99 20");
        for (int k = 1; k <= 3; k++) readied(k, 5040 * 1188, 0);
    }

    @Says(promise = 22, words = "READY: at most k PARTS (1 .. 3), of WORKS whose PART is not there")
    static void theHighestSetOfThree() {
        tell("work 3 1 1;work 5 2 1;work 6 4 1;fast 4;feast 4 1 20;feast 4 2 20;feast 4 3 20");
        tell("behind 0 3;behind 1 4;behind 2 5");
        readied(1, 5040 * 4, 32);
        readied(2, 5040 * 6, 48);
        readied(3, 5040 * 7, 56);
    }

    @Says(promise = 22, words = "of WORKS whose PART is not there")
    static void whatIsThereIsNotMadeReady() {
        tell(THREE_WAIT);
        tell("behind 3 0;behind 4 1;behind 5 2");
        x.ready(2);
        readied(1, 5040 * 6, 2);
        readied(2, 5040 * 7, 3);
        readied(3, 5040 * 7, 3);
        x.ready(0);
        x.ready(1);
        readied(3, 5040 * 7, 0);
        // PART 0 is there, 5 days old, and serves on the first two DAYS; MADE READY anew it would serve on each one.
        tell("calendar;fast 2;work 0 0 7;work 1 5 0;feast 2 0 20;behind 0 2;behind 1 0");
        x.ready(2);
        is("made too late", dealt(1023456), 0);
        is("work(0, 5)", x.work(0, 5), 5);
        ratio("odds(1)", p -> x.odds(1, p), 2, 7);
        readied(1, 5040 / 42 * 32 * 5, 4);
    }

    @Says(promise = 22, words = "the set, the least of several (none, if nothing is better).")
    static void theLeastOfSeveralSets() {
        tell("idle;fast 0;fast 1;feast 0 9 9;feast 1 9 9;work 2 9 9;work 3 9 9;behind 2 0;behind 3 1");
        readied(1, 5040 * 9, 1);
        readied(2, 5040 * 18, 3);
        readied(3, 5040 * 18, 3);
        tell("behind 2 1;behind 3 0");
        readied(1, 5040 * 9, 1);
        tell("calendar;work 0 5 0;work 1 7 20;behind 1 0");
        readied(3, 5040 * 5, 0);
        tell("calendar;fast 0;feast 0 9 9;work 2 0 9;behind 1 0");
        readied(3, 0, 0);
        tell("calendar;fast 0;short 2;feast 0 9 9;work 2 1 9;behind 1 0");
        readied(3, 0, 0);
    }

    @Says(promise = 22, words = "the set, the least of several (none, if nothing is better).")
    static void twoLowPartsAreLessThanOneHighOne() {
        // DAYS 0 .. 5 rise and 6 is anywhere. WORK 3 is done by PART 2 in all 7 ORDERS; by PART 1, which keeps for a day,
        // but where 6 is the first one; by PART 0 only there.
        tell("fast 4;feast 4 0 20;work 6 0 1;work 0 0 20;work 5 10 0;behind 1 0;behind 2 1;behind 3 2");
        tell("ahead 0 1;ahead 1 2;ahead 2 3;ahead 3 4;ahead 4 5");
        readied(1, 70, 4);
        readied(2, 70, 3);
        readied(3, 70, 3);
        x.ready(2);
        readied(3, 70, 0);
        x.undo();
        x.ready(0);
        readied(1, 70, 2);
        x.undo();
        x.ready(1);
        readied(1, 70, 1);
    }

    @Says(promise = 22, words = "READY: how much (what 0), the set (1). OUTSIDE: k, what.")
    static void makeReadyIsRefused() {
        for (String text : new String[] {PAIR, NO_ORDERS}) {
            anew(text);
            for (int k : new int[] {LOW, -1, 0, 4, HIGH}) {
                for (int what : new int[] {-1, 0, 1, 2}) is("makeReady(" + k + ", " + what + ")", x.makeReady(k, what), OUTSIDE);
            }
            for (int k = 1; k <= 3; k++) {
                for (int what : NOT_ONE_OF_TWO) is("makeReady(" + k + ", " + what + ")", x.makeReady(k, what), OUTSIDE);
            }
        }
        // It is not refused where there are no ORDERS: nothing is earned in none of them.
        for (int k = 1; k <= 3; k++) readied(k, 0, 0);
        tell(PAIR);
        for (int k = 1; k <= 3; k++) readied(k, 0, 0);
        x.ready(1);
        for (int k = 1; k <= 3; k++) readied(k, 0, 0);
    }

    // ---- promise 23

    @Says(promise = 23, words = "FAIR: the odds that a DAY is one of the first k.")
    static void fairFromTheFirstToAllSeven() {
        for (int d = 0; d <= 6; d += 3) {
            int day = d;
            for (int k = 1; k <= 7; k++) {
                int first = k;
                ratio("fair(" + d + ", " + k + ")", p -> x.fair(day, first, p), k == 7 ? 1 : k, k == 7 ? 1 : 7);
            }
        }
        tell(ONE_ORDER);
        for (int d = 0; d <= 6; d++) {
            int day = d;
            for (int k = 1; k <= 7; k++) {
                int first = k;
                ratio("one ORDER: fair(" + d + ", " + k + ")", p -> x.fair(day, first, p), d < k ? 1 : 0, 1);
            }
        }
    }

    @Says(promise = 23, words = "FAIR. UNKNOWN; OUTSIDE: k (1 .. 7), part; NOT: there are no ORDERS.")
    static void fairIsRefused() {
        for (int round = 0; round < 2; round++) {
            for (int d : NO_DAYS) {
                for (int k : new int[] {0, 1, 7, 8}) is("fair(" + d + ", " + k + ", 2)", x.fair(d, k, 2), UNKNOWN);
                is("fair(" + d + ", 1, 0)", x.fair(d, 1, 0), UNKNOWN);
            }
            for (int k : new int[] {LOW, -1, 0, 8, HIGH}) {
                for (int part : new int[] {-1, 0, 1, 2}) is("fair(0, " + k + ", " + part + ")", x.fair(0, k, part), OUTSIDE);
            }
            for (int part : NOT_ONE_OF_TWO) {
                is("fair(0, 1, part)", x.fair(0, 1, part), OUTSIDE);
                is("fair(6, 7, part)", x.fair(6, 7, part), OUTSIDE);
            }
            if (round == 0) tell(NO_ORDERS);
        }
        for (int part = 0; part <= 1; part++) {
            is("no ORDERS: fair(0, 1, part)", x.fair(0, 1, part), NOT);
            is("no ORDERS: fair(6, 7, part)", x.fair(6, 7, part), NOT);
        }
    }

    // ---- promises 24, 25

    @Says(promise = 24, words = "BESIDE: the odds that two DAYS come one directly behind the other.")
    static void besideFromNoneToOne() {
        ratio("beside(0, 6)", p -> x.beside(0, 6, p), 2, 7);
        ratio("beside(6, 0)", p -> x.beside(6, 0, p), 2, 7);
        tell(ONE_ORDER);
        for (int d = 0; d <= 6; d++) {
            for (int e = 0; e <= 6; e++) {
                int one = d;
                int two = e;
                // The first and the last one are not beside one another.
                if (d != e) ratio("beside(" + d + ", " + e + ")", p -> x.beside(one, two, p), Math.abs(d - e) == 1 ? 1 : 0, 1);
            }
        }
    }

    @Says(promise = 24, words = "BESIDE. UNKNOWN; OUTSIDE; NOT: there are no ORDERS.")
    static void besideIsRefused() {
        for (int round = 0; round < 2; round++) {
            for (int d : NO_DAYS) {
                for (int part : new int[] {-1, 0, 1, 2}) {
                    is("beside(" + d + ", 0, part)", x.beside(d, 0, part), UNKNOWN);
                    is("beside(6, " + d + ", part)", x.beside(6, d, part), UNKNOWN);
                }
            }
            for (int d = 0; d <= 6; d++) {
                for (int part : new int[] {-1, 0, 1, 2}) is("a DAY and itself", x.beside(d, d, part), UNKNOWN);
            }
            if (round == 0) isRefused("beside(0, 6, ..)", p -> x.beside(0, 6, p));
        }
    }

    @Says(promise = 25, words = "ACROSS: the odds that a DAY is the last one of a WEEK, and another one, or itself, the first of the one behind.")
    static void acrossFromNoneToOne() {
        for (int d = 0; d <= 6; d += 6) {
            int day = d;
            ratio("across(" + d + ", 0)", p -> x.across(day, 0, p), 1, 49);
            ratio("itself: across(" + d + ", " + d + ")", p -> x.across(day, day, p), 1, 49);
        }
        tell(ONE_ORDER);
        for (int d = 0; d <= 6; d++) {
            for (int e = 0; e <= 6; e++) {
                int one = d;
                int two = e;
                ratio("across(" + d + ", " + e + ")", p -> x.across(one, two, p), d == 6 && e == 0 ? 1 : 0, 1);
            }
        }
        tell("free;first 0");
        ratio("across(0, 1)", p -> x.across(0, 1, p), 1, 36);
        ratio("across(1, 0)", p -> x.across(1, 0, p), 0, 1);
        // 646 ORDERS: below is more than 16 bits hold.
        tell("free;beside 0 1;beside 1 2;beside 2 3;beside 3 4;beside 4 5;beside 5 6");
        // A row that is as they say is so backwards too: a DAY is as often the last one as the first one.
        lowest("across(3, 0)", p -> x.across(3, 0, p), x.day(3, 2) * x.day(0, 2), 646 * 646);
    }

    @Says(promise = 25, words = "ACROSS. UNKNOWN (itself is none such); OUTSIDE; NOT: there are no ORDERS.")
    static void acrossIsRefused() {
        for (int d : NO_DAYS) {
            for (int part : new int[] {-1, 0, 1, 2}) {
                is("across(" + d + ", 0, part)", x.across(d, 0, part), UNKNOWN);
                is("across(6, " + d + ", part)", x.across(6, d, part), UNKNOWN);
                is("across(" + d + ", " + d + ", part)", x.across(d, d, part), UNKNOWN);
            }
        }
        for (int d = 0; d <= 6; d++) {
            is("itself is none such", x.across(d, d, 1), 49);
            is("OUTSIDE", x.across(d, d, 2), OUTSIDE);
        }
        isRefused("across(6, 0, ..)", p -> x.across(6, 0, p));
        is("no ORDERS: across(3, 3, 0)", x.across(3, 3, 0), NOT);
        is("no ORDERS: across(7, 3, 0)", x.across(7, 3, 0), UNKNOWN);
    }

    // ---- promise 26

    @Says(promise = 26, words = "WAIT: the most days from a DAY in a WEEK to it in the next one (a day behind the other is 1).")
    static void waitsFrom7To13Days() {
        for (int d = 0; d <= 6; d++) is("waits(" + d + ")", x.waits(d), 13);
        tell(ONE_ORDER);
        for (int d = 0; d <= 6; d++) is("one ORDER: waits(" + d + ")", x.waits(d), 7);
        tell("free;first 0;first 1;first 2;first 3;first 4;first 5");
        is("always the first one: waits(6)", x.waits(6), 7);
        is("never the first one: waits(0)", x.waits(0), 12);
        tell("free;ahead 0 1;ahead 0 2;ahead 0 3;ahead 0 4;ahead 0 5");
        is("first or second: waits(0)", x.waits(0), 8);
        is("waits(6)", x.waits(6), 13);
        tell("free;ahead 1 0;ahead 2 0;ahead 3 0;ahead 4 0;ahead 5 0");
        is("last or last but one: waits(0)", x.waits(0), 8);
        tell("free;ahead 1 0;ahead 2 0;ahead 3 0;ahead 4 0;ahead 5 0;ahead 6 0");
        is("always the last one: waits(0)", x.waits(0), 7);
        is("waits(1)", x.waits(1), 12);
    }

    @Says(promise = 26, words = "WAIT. UNKNOWN; NOT: there are no ORDERS.")
    static void waitsIsRefused() {
        for (int d : NO_DAYS) is("waits(" + d + ")", x.waits(d), UNKNOWN);
        tell(NO_ORDERS);
        for (int d : NO_DAYS) is("no ORDERS: waits(" + d + ")", x.waits(d), UNKNOWN);
        for (int d = 0; d <= 6; d++) is("no ORDERS: waits(" + d + ")", x.waits(d), NOT);
    }
}
