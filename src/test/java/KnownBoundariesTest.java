/** Sentences that name boundary cases of bets and of what is known: promises 27 to 36. */
public final class KnownBoundariesTest extends Sentences {
    private static final int[] NOT_ONE_OF_TWO = {LOW, -1, 2, HIGH};
    private static final int[] NO_DAYS = {LOW, -1, 7, HIGH};
    /** DAYS 0 .. 5 rise, 6 is anywhere: 7 ORDERS. */
    private static final String SEVEN_ORDERS = "ahead 0 1;ahead 1 2;ahead 2 3;ahead 3 4;ahead 4 5";

    public static void main(String[] args) throws Exception {
        testAll(KnownBoundariesTest.class);
    }

    // ---- promises 27, 28

    @Says(promise = 27, words = "BETS, 6 at most: a DAY comes as one of the first k (1 .. 6): for a PRICE (0 .. 99) one gets 100, if it does.")
    static void kIs1To6AndAPrice0To99() {
        is("bet(0, 1, 0)", x.bet(0, 1, 0), 1);
        is("bet(6, 6, 99)", x.bet(6, 6, 99), 2);
        is("bet(0, 6, 0)", x.bet(0, 6, 0), 3);
        is("bet(6, 1, 99)", x.bet(6, 1, 99), 4);
        for (int k : new int[] {LOW, -1, 0, 7, HIGH}) is("bet(0, " + k + ", 50)", x.bet(0, k, 50), OUTSIDE);
        for (int price : new int[] {LOW, -1, 100, HIGH}) is("bet(0, 3, " + price + ")", x.bet(0, 3, price), OUTSIDE);
        is("count(5)", x.count(5), 4);
    }

    @Says(promise = 27, words = "A BET more: how many.")
    static void betsAreSixAtMost() {
        for (int n = 1; n <= 6; n++) is("bet(2, 3, 40)", x.bet(2, 3, 40), n);
        is("a seventh", x.bet(2, 3, 40), FULL);
        is("count(5)", x.count(5), 6);
        is("call()", x.call(), 6);
        for (int n = 1; n <= 6; n++) is("bet(3, 2, 4)", x.bet(3, 2, 4), n);
        is("a seventh", x.bet(3, 2, 4), FULL);
    }

    @Says(promise = 27, words = "UNKNOWN; OUTSIDE; FULL.")
    static void ofABetUnknownComesFirstThenOutside() {
        for (int n = 0; n <= 6; n += 6) {
            int had = n;
            times(n, () -> x.bet(1, 1, 1));
            for (int d : NO_DAYS) {
                is("bet(" + d + ", 1, 0)", x.bet(d, 1, 0), UNKNOWN);
                is("bet(" + d + ", 0, 0)", x.bet(d, 0, 0), UNKNOWN);
                is("bet(" + d + ", 1, 100)", x.bet(d, 1, 100), UNKNOWN);
                is("bet(" + d + ", 7, -1)", x.bet(d, 7, -1), UNKNOWN);
            }
            is("bet(6, 0, 99)", x.bet(6, 0, 99), OUTSIDE);
            is("bet(6, 7, 99)", x.bet(6, 7, 99), OUTSIDE);
            is("bet(0, 6, 100)", x.bet(0, 6, 100), OUTSIDE);
            is("bet(0, 1, -1)", x.bet(0, 1, -1), OUTSIDE);
            is("count(5)", x.count(5), had);
        }
        is("bet(0, 1, 0)", x.bet(0, 1, 0), FULL);
    }

    @Says(promise = 27, words = "A BET more: how many.")
    static void aBetCanBeMadeWhereNoOrderIsLeft() {
        tell(NO_ORDERS);
        is("bet(0, 1, 0)", x.bet(0, 1, 0), 1);
        is("count(5)", x.count(5), 1);
    }

    @Says(promise = 28, words = "There are no BETS: how many there were.")
    static void noneToSixBetsWere() {
        is("none: call()", x.call(), 0);
        for (int bets = 1; bets <= 6; bets++) {
            times(bets, () -> x.bet(0, 6, 1));
            x.bet(0, 7, 1);
            is("call()", x.call(), bets);
            is("count(5)", x.count(5), 0);
            is("call()", x.call(), 0);
        }
        tell(ONE_ORDER);
        times(7, () -> x.bet(0, 1, 1));
        is("sure(0)", x.sure(0), 6 * 99);
        is("call()", x.call(), 6);
        is("sure(0)", x.sure(0), 0);
        is("sure(1)", x.sure(1), 0);
    }

    // ---- promise 29

    private static void surely(String what, int won, int set) {
        is(what + ": sure(0)", x.sure(0), won);
        is(what + ": sure(1)", x.sure(1), set);
    }

    @Says(promise = 29, words = "one gets 100, if it does.")
    static void aBetWinsToItsLastPlace() {
        // DAY 3 is at place 3 in the one ORDER: it is one of the first 4.
        tell(ONE_ORDER);
        for (int d = 0; d <= 6; d++) {
            for (int k = 1; k <= 6; k++) {
                x.bet(d, k, 99);
                surely("bet(" + d + ", " + k + ", 99)", d < k ? 1 : 0, d < k ? 1 : 0);
                x.call();
            }
        }
        tell("free;ahead 0 1");
        x.bet(0, 6, 99);
        surely("never the last one", 1, 1);
        x.call();
        x.bet(1, 6, 0);
        surely("the last one now and then", 0, 0);
        x.call();
        x.bet(0, 5, 0);
        surely("the last but one now and then", 0, 0);
    }

    @Says(promise = 29, words = "SURE: the set of BETS by which one wins most, whatever ORDER is dealt (by the worst one): how much;")
    static void theLeastAndTheMostThatIsWon() {
        tell(ONE_ORDER);
        for (int k = 1; k <= 6; k++) x.bet(0, k, 0);
        surely("all six, for nothing", 600, 63);
        x.call();
        for (int k = 1; k <= 6; k++) x.bet(0, k, 99);
        surely("all six, for 99 each", 6, 63);
        x.call();
        for (int k = 1; k <= 5; k++) x.bet(6, k, 0);
        x.bet(0, 1, 99);
        surely("the last of six alone", 1, 32);
        x.call();
        for (int k = 1; k <= 6; k++) x.bet(6, k, 99);
        surely("all lose", 0, 0);
        tell("free");
        for (int d = 0; d <= 5; d++) x.bet(d, 6, 83);
        surely("five of six win at the worst: 500 - 498", 2, 63);
        x.call();
        for (int d = 0; d <= 5; d++) x.bet(d, 6, 84);
        surely("500 - 504", 0, 0);
    }

    @Says(promise = 29, words = "the least such set (none wins: 0, the empty one).")
    static void theLeastOfSeveralSetsThatWin() {
        surely("no BETS", 0, 0);
        tell(ONE_ORDER);
        x.bet(6, 1, 0);
        surely("what loses nothing wins nothing", 0, 0);
        x.bet(0, 1, 1);
        surely("what loses nothing is left out", 99, 2);
        x.bet(5, 1, 0);
        surely("and so behind it", 99, 2);
        tell("free");
        x.bet(0, 6, 50);
        x.bet(1, 6, 50);
        surely("100 for 100", 0, 0);
        x.bet(1, 6, 49);
        surely("100 for 99", 1, 5);
        x.bet(1, 6, 49);
        surely("of two alike the least", 1, 5);
        x.bet(0, 6, 48);
        surely("two of four win at the worst: 200 for 196, not 100 for 97", 4, 29);
    }

    @Says(promise = 29, words = "SURE: how much (what 0), the set (1). OUTSIDE; NOT: there are no ORDERS.")
    static void sureIsRefused() {
        for (int round = 0; round < 2; round++) {
            for (int what : NOT_ONE_OF_TWO) is("sure(" + what + ")", x.sure(what), OUTSIDE);
            if (round == 0) tell(NO_ORDERS);
        }
        is("no BETS, no ORDERS: sure(0)", x.sure(0), NOT);
        is("no BETS, no ORDERS: sure(1)", x.sure(1), NOT);
        x.bet(0, 1, 0);
        is("no ORDERS: sure(0)", x.sure(0), NOT);
        is("no ORDERS: sure(1)", x.sure(1), NOT);
    }

    // ---- promises 30, 31

    @Says(promise = 30, words = "KNOWN, 8 at most, of a WEEK: a DAY came ahead of another one (1), or not (0).")
    static void eightThingsAreKnownAtMost() {
        for (int n = 1; n <= 8; n++) is("known(0, 6, " + n % 2 + ")", x.known(0, 6, n % 2), n);
        is("a ninth", x.known(0, 6, 1), FULL);
        is("a ninth", x.known(1, 2, 0), FULL);
        is("count(6)", x.count(6), 8);
        is("forget()", x.forget(), 8);
        for (int n = 1; n <= 8; n++) is("known(6, 0, 1)", x.known(6, 0, 1), n);
        is("a ninth", x.known(0, 6, 1), FULL);
        is("it is not KNOWN: fit(0)", x.fit(0), 2520);
    }

    @Says(promise = 30, words = "a DAY came ahead of another one (1), or not (0).")
    static void notAheadIsBehind() {
        x.known(0, 6, 1);
        is("known(0, 6, 1): fit(1)", x.fit(1), 0);
        is("fit(0)", x.fit(0), 2520);
        x.forget();
        x.known(0, 6, 0);
        is("known(0, 6, 0): fit(1)", x.fit(1), x.which(1234560));
        is("fit(0)", x.fit(0), 2520);
        x.known(6, 0, 1);
        is("the same once more: fit(0)", x.fit(0), 2520);
        x.known(6, 0, 0);
        is("against it: fit(0)", x.fit(0), 0);
    }

    @Says(promise = 30, words = "KNOWN: how many. UNKNOWN; OUTSIDE; FULL.")
    static void ofWhatIsKnownUnknownComesFirstThenOutside() {
        for (int n = 0; n <= 8; n += 8) {
            int had = n;
            times(n, () -> x.known(1, 2, 1));
            for (int is : new int[] {-1, 0, 1, 2}) {
                for (int d : NO_DAYS) {
                    is("known(" + d + ", 0, " + is + ")", x.known(d, 0, is), UNKNOWN);
                    is("known(6, " + d + ", " + is + ")", x.known(6, d, is), UNKNOWN);
                }
                for (int d = 0; d <= 6; d++) is("a DAY and itself", x.known(d, d, is), UNKNOWN);
            }
            for (int is : NOT_ONE_OF_TWO) {
                is("known(0, 6, " + is + ")", x.known(0, 6, is), OUTSIDE);
                is("known(6, 0, " + is + ")", x.known(6, 0, is), OUTSIDE);
            }
            is("count(6)", x.count(6), had);
        }
        is("known(0, 6, 0)", x.known(0, 6, 0), FULL);
        is("known(0, 6, 1)", x.known(0, 6, 1), FULL);
    }

    @Says(promise = 30, words = "KNOWN: how many.")
    static void somethingCanBeKnownWhereNoOrderIsLeft() {
        tell(NO_ORDERS);
        is("known(0, 1, 1)", x.known(0, 1, 1), 1);
        is("fit(0)", x.fit(0), 0);
    }

    @Says(promise = 31, words = "Nothing is KNOWN: how many there were.")
    static void noneToEightThingsWereKnown() {
        is("nothing: forget()", x.forget(), 0);
        for (int n = 1; n <= 8; n++) {
            times(n, () -> x.known(3, 4, 0));
            x.known(3, 3, 0);
            is("fit(0)", x.fit(0), 2520);
            is("forget()", x.forget(), n);
            is("count(6)", x.count(6), 0);
            is("forget()", x.forget(), 0);
            is("fit(0)", x.fit(0), 5040);
        }
    }

    // ---- promises 32, 33

    @Says(promise = 32, words = "FIT: ORDERS by which all is so: how many, the first;")
    static void allFitOneFitsNoneFits() {
        is("nothing is KNOWN: fit(0)", x.fit(0), 5040);
        is("fit(1)", x.fit(1), 0);
        for (int d = 6; d > 0; d--) x.known(d, d - 1, 1);
        is("one fits: fit(0)", x.fit(0), 1);
        is("the last one: fit(1)", x.fit(1), 5039);
        x.known(6, 0, 1);
        x.known(0, 6, 0);
        is("one fits yet: fit(0)", x.fit(0), 1);
        x.forget();
        x.known(0, 1, 1);
        x.known(0, 1, 0);
        is("none fits: fit(0)", x.fit(0), 0);
        is("fit(1)", x.fit(1), NONE);
        tell(NO_ORDERS);
        is("no ORDERS: fit(0)", x.fit(0), 0);
        is("fit(1)", x.fit(1), NONE);
        is("fit(2)", x.fit(2), 0);
        tell("free;ahead 0 1");
        is("fit(0)", x.fit(0), 2520);
        x.known(0, 1, 1);
        is("a RULE says so: fit(0)", x.fit(0), 2520);
        x.known(1, 0, 1);
        is("a RULE is against it: fit(0)", x.fit(0), 0);
        is("fit(1)", x.fit(1), NONE);
    }

    @Says(promise = 32, words = "which of the last 4 WEEKS that were dealt fit (by bits, 0 the latest).")
    static void theLast4WeeksFit() {
        is("no WEEK", x.fit(2), 0);
        int[] due = {1, 3, 7, 15, 15, 15};
        for (int week = 0; week < 6; week++) {
            x.deal(week);
            is("nothing is KNOWN, WEEK " + week, x.fit(2), due[week]);
        }
        anew("");
        x.known(0, 1, 1);
        boolean[] ahead = {true, false, false, false, false, true, true, false, true};
        int[] bits = {1, 2, 4, 8, 0, 1, 3, 6, 13};
        for (int week = 0; week < ahead.length; week++) {
            dealt(ahead[week] ? 123456 : 1023456);
            is("WEEK " + week, x.fit(2), bits[week]);
        }
        x.known(0, 1, 0);
        is("none fits", x.fit(2), 0);
        x.forget();
        x.known(1, 0, 1);
        is("the others fit", x.fit(2), 2);
        tell("ahead 0 1");
        is("behind a text", x.fit(2), 0);
    }

    @Says(promise = 32, words = "FIT: how many (what 0), the first ORDER (1; NONE), WEEKS that fit, by bits (2). OUTSIDE.")
    static void fitIsRefused() {
        for (int round = 0; round < 2; round++) {
            for (int what : new int[] {LOW, -1, 3, HIGH}) is("fit(" + what + ")", x.fit(what), OUTSIDE);
            if (round == 0) tell(NO_ORDERS);
        }
    }

    @Says(promise = 33, words = "The DAY at a place (0 .. 6) in all ORDERS that FIT; NONE: it is not the same one, none FITS.")
    static void theSameDayInAllThatFit() {
        for (int k = 0; k <= 6; k++) is("all fit: at(" + k + ")", x.at(k), NONE);
        for (int d = 0; d < 6; d++) x.known(d, d + 1, 0);
        for (int k = 0; k <= 6; k++) is("one fits: at(" + k + ")", x.at(k), 6 - k);
        x.known(0, 6, 1);
        for (int k = 0; k <= 6; k++) is("none fits: at(" + k + ")", x.at(k), NONE);
        tell(SEVEN_ORDERS);
        for (int k = 0; k <= 6; k++) is("7 fit: at(" + k + ")", x.at(k), NONE);
        // Two fit, in which 6 is at the last place or the last but one.
        x.known(4, 6, 1);
        int[] due = {0, 1, 2, 3, 4, NONE, NONE};
        for (int k = 0; k <= 6; k++) is("two fit: at(" + k + ")", x.at(k), due[k]);
        x.forget();
        x.known(6, 1, 1);
        int[] others = {NONE, NONE, 1, 2, 3, 4, 5};
        for (int k = 0; k <= 6; k++) is("two others fit: at(" + k + ")", x.at(k), others[k]);
        tell("free;" + ONE_ORDER);
        for (int k = 0; k <= 6; k++) is("one ORDER: at(" + k + ")", x.at(k), k);
        tell("free;" + NO_ORDERS);
        for (int k = 0; k <= 6; k++) is("no ORDERS: at(" + k + ")", x.at(k), NONE);
    }

    @Says(promise = 33, words = "the DAY that is at a place in all of them;")
    static void theFirstAndTheLastPlaceAlone() {
        for (int d = 0; d <= 5; d++) x.known(6, d, 1);
        is("720 fit: fit(0)", x.fit(0), 720);
        for (int k = 0; k <= 6; k++) is("6 is the first one: at(" + k + ")", x.at(k), k == 0 ? 6 : NONE);
        x.forget();
        for (int d = 1; d <= 6; d++) x.known(0, d, 0);
        for (int k = 0; k <= 6; k++) is("0 is the last one: at(" + k + ")", x.at(k), k == 6 ? 0 : NONE);
    }

    @Says(promise = 33, words = "NONE: it is not the same one, none FITS. OUTSIDE.")
    static void atIsRefused() {
        for (int round = 0; round < 2; round++) {
            for (int k : new int[] {LOW, -1, 7, HIGH}) is("at(" + k + ")", x.at(k), OUTSIDE);
            if (round == 0) tell(NO_ORDERS);
        }
    }

    // ---- promise 34

    @Says(promise = 34, words = "DOUBT of a DAY: the odds that it is the first one at least as often in as many WEEKS as were DEALT (the last 4 at most) as it was.")
    static void fromNoWeekToTheLastFour() {
        for (int d = 0; d <= 6; d++) {
            int day = d;
            ratio("no WEEK", p -> x.doubt(day, p), 1, 1);
        }
        long below = 1;
        for (int week = 1; week <= 6; week++) {
            dealt(3012456);
            below = week <= 4 ? below * 7 : below;
            ratio("each time, WEEK " + week, p -> x.doubt(3, p), 1, powerOf7(Math.min(week, 4)));
            ratio("never, WEEK " + week, p -> x.doubt(0, p), 1, 1);
        }
        is("the most below", x.doubt(3, 1), below);
        for (int others = 1; others <= 5; others++) {
            dealt(123456);
            // By how often it is the first one at least, of 7 to the 4.
            long[] atLeast = {2401, 1105, 241, 25, 1};
            int times = Math.max(0, 4 - others);
            ratio(times + " of the last 4", p -> x.doubt(3, p), times == 0 ? 1 : atLeast[times], times == 0 ? 1 : 2401);
            int rest = 4 - times;
            ratio(rest + " of the last 4", p -> x.doubt(0, p), atLeast[rest], 2401);
        }
    }

    private static long powerOf7(int n) {
        return n == 0 ? 1 : 7 * powerOf7(n - 1);
    }

    @Says(promise = 34, words = "DOUBT of a DAY: the odds that it is the first one at least as often")
    static void aDayThatIsAlwaysOrNeverTheFirstOne() {
        tell("first 0;first 1;first 2;first 3;first 4;first 5");
        for (int week = 1; week <= 5; week++) {
            x.deal(week);
            ratio("always", p -> x.doubt(6, p), 1, 1);
            ratio("never", p -> x.doubt(0, p), 1, 1);
        }
        tell("free;" + SEVEN_ORDERS);
        for (int week = 1; week <= 5; week++) {
            x.deal(6);
            ratio("1 of 7", p -> x.doubt(6, p), 1, powerOf7(Math.min(week, 4)));
            ratio("not it", p -> x.doubt(0, p), 1, 1);
            ratio("never", p -> x.doubt(5, p), 1, 1);
        }
    }

    @Says(promise = 34, words = "DOUBT of a DAY: the odds that it is the first one at least as often")
    static void moreThanAnIntHolds() {
        // So many rows of seven have no two neighbours beside one another.
        tell("beside 0 1;beside 1 2;beside 2 3;beside 3 4;beside 4 5;beside 5 6");
        is("orders()", x.orders(), 646);
        long first = x.day(3, 2);
        for (int week = 0; week < 4; week++) dealt(3051624);
        long divisor = gcd(first, 646);
        long above = first / divisor;
        long below = 646 / divisor;
        ratio("4 of 4", p -> x.doubt(3, p), above * above * above * above, below * below * below * below);
        is("an int does not hold it", x.doubt(3, 1) > HIGH ? 1 : 0, 1);
    }

    private static long gcd(long a, long b) {
        return b == 0 ? a : gcd(b, a % b);
    }

    @Says(promise = 34, words = "DOUBT. UNKNOWN; OUTSIDE; NOT: there are no ORDERS.")
    static void doubtIsRefused() {
        for (int round = 0; round < 2; round++) {
            for (int d : NO_DAYS) {
                for (int part : new int[] {-1, 0, 1, 2}) is("doubt(" + d + ", " + part + ")", x.doubt(d, part), UNKNOWN);
            }
            for (int part : NOT_ONE_OF_TWO) {
                is("doubt(0, " + part + ")", x.doubt(0, part), OUTSIDE);
                is("doubt(6, " + part + ")", x.doubt(6, part), OUTSIDE);
            }
            if (round == 0) {
                x.deal(0);
                tell(NO_ORDERS);
            }
        }
        for (int part = 0; part <= 1; part++) {
            is("no ORDERS: doubt(0, " + part + ")", x.doubt(0, part), NOT);
            is("no ORDERS: doubt(6, " + part + ")", x.doubt(6, part), NOT);
        }
    }

    // ---- promise 35

    private static void isLoose(int day, int other, int size, int set) {
        is("loose(" + day + ", " + other + ", 0)", x.loose(day, other, 0), size);
        is("loose(" + day + ", " + other + ", 1)", x.loose(day, other, 1), set);
    }

    @Says(promise = 35, words = "LOOSE for two DAYS: the fewest RULES to be left out so that there is an ORDER in which one is directly ahead of the other;")
    static void noneToAllSixAreLeftOut() {
        isLoose(0, 6, 0, 0);
        isLoose(6, 0, 0, 0);
        tell("ahead 1 0;ahead 1 0;ahead 1 0;ahead 1 0;ahead 1 0;ahead 1 0");
        isLoose(0, 1, 6, 63);
        isLoose(1, 0, 0, 0);
        tell("free;ahead 1 0;beside 0 1;ahead 1 0;beside 1 0;ahead 1 0;first 6");
        isLoose(0, 1, 5, 31);
        isLoose(1, 0, 2, 10);
        isLoose(6, 0, 0, 0);
        tell("free;" + ONE_ORDER);
        isLoose(0, 1, 0, 0);
        isLoose(5, 6, 0, 0);
        isLoose(6, 5, 1, 32);
        isLoose(1, 0, 1, 1);
        isLoose(0, 2, 1, 1);
        isLoose(0, 6, 1, 1);
        is("nothing is left out for good: count(1)", x.count(1), 6);
        is("orders()", x.orders(), 1);
    }

    @Says(promise = 35, words = "there is an ORDER in which one is directly ahead of the other;")
    static void fromThePairAtTheFirstPlaceToTheLast() {
        // 0 is the first one in any case, and 1 the last one.
        tell("ahead 0 2;ahead 0 3;ahead 0 4;ahead 0 5;ahead 0 6;ahead 0 1");
        isLoose(0, 1, 0, 0);
        isLoose(1, 0, 1, 32);
        isLoose(2, 0, 1, 1);
        isLoose(6, 0, 1, 16);
        tell("free;ahead 2 1;ahead 3 1;ahead 4 1;ahead 5 1;ahead 6 1;ahead 0 1");
        isLoose(0, 1, 0, 0);
        isLoose(1, 0, 1, 32);
        isLoose(1, 6, 1, 16);
        tell("free;first 0;first 1;first 2;first 3;first 4;first 5");
        isLoose(6, 0, 0, 0);
        isLoose(0, 6, 1, 1);
        isLoose(5, 6, 1, 1);
        isLoose(5, 0, 0, 0);
    }

    @Says(promise = 35, words = "which (by bits, as they were told), of several the least.")
    static void ofSeveralTheLeast() {
        tell("ahead 0 1;ahead 1 2;ahead 2 0");
        isLoose(5, 6, 1, 1);
        isLoose(0, 1, 1, 2);
        isLoose(2, 1, 2, 3);
        isLoose(1, 2, 1, 1);
        tell("free;first 3;first 3;ahead 0 1;ahead 1 0");
        isLoose(5, 6, 1, 4);
        isLoose(0, 1, 1, 8);
        tell("free;ahead 2 0;ahead 1 0;ahead 0 2;ahead 0 1");
        isLoose(5, 6, 2, 3);
        // Two that are told late are fewer than three that are told first.
        tell("free;ahead 2 0;ahead 3 0;ahead 4 1;ahead 5 1;ahead 0 1;beside 1 0");
        isLoose(1, 0, 2, 48);
    }

    @Says(promise = 35, words = "LOOSE: how many (what 0), which (1). UNKNOWN; OUTSIDE.")
    static void looseIsRefused() {
        for (int round = 0; round < 2; round++) {
            for (int what : new int[] {-1, 0, 1, 2}) {
                for (int d : NO_DAYS) {
                    is("loose(" + d + ", 0, " + what + ")", x.loose(d, 0, what), UNKNOWN);
                    is("loose(6, " + d + ", " + what + ")", x.loose(6, d, what), UNKNOWN);
                }
                for (int d = 0; d <= 6; d++) is("a DAY and itself", x.loose(d, d, what), UNKNOWN);
            }
            for (int what : NOT_ONE_OF_TWO) {
                is("loose(0, 6, " + what + ")", x.loose(0, 6, what), OUTSIDE);
                is("loose(6, 0, " + what + ")", x.loose(6, 0, what), OUTSIDE);
            }
            if (round == 0) tell(NO_ORDERS);
        }
        // It is not refused where there are no ORDERS.
        isLoose(0, 1, 1, 2);
        isLoose(1, 0, 1, 1);
        isLoose(5, 6, 1, 1);
    }

    // ---- promise 36

    @Says(promise = 36, words = "0 WORKS, 1 RULES, 2 WEEKS that were DEALT, 3 what was earned, 4 PARTS that are there, by bits, 5 BETS, 6 KNOWN,"
        + " 7 how many can be undone, 8 letters of THE TEXT.")
    static void eachCountAtItsMost() {
        for (int what = 0; what <= 8; what++) is("at first: count(" + what + ")", x.count(what), 0);
        tell("work 0 99 20;".repeat(6) + "double 0");
        tell("first 1;first 1;first 1;first 1;first 1;first 1");
        times(9, () -> x.deal(0));
        times(7, () -> x.bet(0, 1, 0));
        times(9, () -> x.known(0, 1, 1));
        put(blanks(161));
        int[] due = {6, 6, 9, 9 * 1188, 63, 6, 8, 8, 160};
        for (int what = 0; what <= 8; what++) is("at the most: count(" + what + ")", x.count(what), due[what]);
    }

    @Says(promise = 36, words = "OUTSIDE.")
    static void countIsRefused() {
        for (int what : new int[] {LOW, -1, 9, HIGH}) is("count(" + what + ")", x.count(what), OUTSIDE);
    }
}
