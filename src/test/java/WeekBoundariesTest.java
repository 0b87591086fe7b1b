/** Sentences that name boundary cases of orders and weeks: promises 9 to 16, RULES, what is done on a DAY. */
public final class WeekBoundariesTest extends Sentences {
    public static void main(String[] args) throws Exception {
        testAll(WeekBoundariesTest.class);
    }

    private static int digitsOf(int order) {
        int digits = 0;
        for (int k = 0; k <= 6; k++) digits = digits * 10 + x.order(order, k);
        return digits;
    }

    /** A row of the seven DAYS in which one is at one place and the other at another, the rest as they rise. */
    private static int rowWith(int day, int place, int other, int otherPlace) {
        int digits = 0;
        int next = 0;
        for (int k = 0; k <= 6; k++) {
            while (next == day || next == other) next++;
            digits = digits * 10 + (k == place ? day : k == otherPlace ? other : next++);
        }
        return digits;
    }

    private static void standsAgainst(int digits, boolean isAgainst) {
        int answer = x.which(digits);
        if (isAgainst) is("which(" + digits + ")", answer, NOT);
        else if (answer < 0) isWrong("which(" + digits + ") answered " + answer + ", due is an ORDER");
    }

    // ---- RULES

    @Says(promise = 11, words = "FIRST d (d is never the first one)")
    static void aDayThatIsNeverTheFirstOne() {
        for (int d = 0; d <= 6; d++) {
            anew("first " + d);
            is("orders()", x.orders(), 4320);
            int other = (d + 1) % 7;
            for (int place = 0; place <= 6; place++) standsAgainst(rowWith(d, place, other, (place + 1) % 7), place == 0);
        }
    }

    @Says(promise = 11, words = "BESIDE d e (never one directly behind the other)")
    static void daysThatAreNeverBesideOneAnother() {
        for (int[] pair : new int[][] {{0, 1}, {1, 0}, {6, 0}, {2, 5}}) {
            anew("beside " + pair[0] + " " + pair[1]);
            is("orders()", x.orders(), 3600);
            for (int one = 0; one <= 6; one++) {
                for (int two = 0; two <= 6; two++) {
                    // The first place and the last one are not beside one another.
                    if (one != two) standsAgainst(rowWith(pair[0], one, pair[1], two), Math.abs(one - two) == 1);
                }
            }
        }
    }

    @Says(promise = 11, words = "AHEAD d e (d is always ahead of e).")
    static void aDayThatIsAlwaysAhead() {
        for (int[] pair : new int[][] {{0, 1}, {1, 0}, {6, 0}, {2, 5}}) {
            anew("ahead " + pair[0] + " " + pair[1]);
            is("orders()", x.orders(), 2520);
            for (int one = 0; one <= 6; one++) {
                for (int two = 0; two <= 6; two++) {
                    if (one != two) standsAgainst(rowWith(pair[0], one, pair[1], two), one > two);
                }
            }
        }
    }

    // ---- promises 9, 10, 11

    @Says(promise = 9, words = "How many ORDERS there are.")
    static void allOrdersOneOrNone() {
        is("without RULES", x.orders(), 5040);
        tell(ONE_ORDER);
        is("one is left", x.orders(), 1);
        tell("free;" + NO_ORDERS);
        is("none is left", x.orders(), 0);
        tell("free;ahead 0 1;ahead 1 2;ahead 2 0");
        is("none, by three", x.orders(), 0);
        tell("free;first 0;first 1;first 2;first 3;first 4;first 5");
        is("first ones but 6", x.orders(), 720);
        tell("free;first 0;first 0;first 0;first 0;first 0;first 0");
        is("one RULE six times", x.orders(), 4320);
        tell("free;beside 0 1;beside 1 0;beside 0 1");
        is("one RULE three times", x.orders(), 3600);
        tell("free;beside 0 6;ahead 6 0");
        is("ahead, but not directly", x.orders(), 1800);
        tell("free");
        is("all again", x.orders(), 5040);
    }

    @Says(promise = 10, words = "ORDERS are 0, 1 ..: all rows of the seven DAYS that are as all RULES say, as they rise (by the first DAY, then the second, ..).")
    static void allRowsRise() {
        int last = -1;
        for (int order = 0; order < 5040; order++) {
            if (order % 60 == 0) x = new MondayDeal();
            int row = digitsOf(order);
            if (row <= last) isWrong("order " + order + " is " + row + " behind " + last);
            last = row;
        }
        is("the last one", last, 6543210);
    }

    @Says(promise = 10, words = "The DAY at place k (0 .. 6) of an ORDER.")
    static void theFirstAndTheLastOrderAtEachPlace() {
        for (int k = 0; k <= 6; k++) {
            is("order(0, " + k + ")", x.order(0, k), k);
            is("order(5039, " + k + ")", x.order(5039, k), 6 - k);
        }
        tell("first 0;first 6");
        is("order(0)", digitsOf(0), 1023456);
        is("order(3599)", digitsOf(3599), 5643210);
        is("order(3600, 0)", x.order(3600, 0), UNKNOWN);
        tell("free;" + ONE_ORDER);
        is("order(0)", digitsOf(0), 123456);
        is("order(1, 0)", x.order(1, 0), UNKNOWN);
    }

    @Says(promise = 10, words = "UNKNOWN; OUTSIDE.")
    static void ofAnOrderUnknownComesFirst() {
        for (int order : new int[] {-1, 5040, LOW, HIGH}) {
            for (int k : new int[] {LOW, -1, 0, 6, 7, HIGH}) is("order(" + order + ", " + k + ")", x.order(order, k), UNKNOWN);
        }
        for (int k : new int[] {LOW, -1, 7, HIGH}) {
            is("order(0, " + k + ")", x.order(0, k), OUTSIDE);
            is("order(5039, " + k + ")", x.order(5039, k), OUTSIDE);
        }
        tell(NO_ORDERS);
        is("none is left: order(0, 0)", x.order(0, 0), UNKNOWN);
        is("none is left: order(0, 7)", x.order(0, 7), UNKNOWN);
    }

    @Says(promise = 11, words = "Which ORDER it is: seven DAYS as digits, the first one highest.")
    static void theFirstAndTheLastRow() {
        is("which(0123456)", x.which(123456), 0);
        is("which(0123465)", x.which(123465), 1);
        is("which(0654321)", x.which(654321), 719);
        is("which(1023456)", x.which(1023456), 720);
        is("which(6543201)", x.which(6543201), 5038);
        is("which(6543210)", x.which(6543210), 5039);
        tell("first 0");
        is("which(1023456)", x.which(1023456), 0);
        is("which(6543210)", x.which(6543210), 4319);
    }

    @Says(promise = 11, words = "Which ORDER it is: seven DAYS as digits, the first one highest.")
    static void eachRowIsFoundAgain() {
        for (String text : new String[] {"", "first 0;beside 1 2;ahead 3 4", "ahead 5 0;ahead 0 6;beside 2 0", ONE_ORDER}) {
            anew(text);
            int orders = x.orders();
            for (int order = 0; order < orders; order += 1 + orders / 30) is("which(..)", x.which(digitsOf(order)), order);
            is("which(..)", x.which(digitsOf(orders - 1)), orders - 1);
        }
    }

    @Says(promise = 11, words = "OUTSIDE: it is no row of seven DAYS;")
    static void whatIsNoRowOfSevenDays() {
        int[] none = {
            LOW, -1, -123456, -6543210, 0, 1, 12345, 123455, 123457, 99999, 1234567, 6543211, 6543217, 6543220, 7123456, 7654321,
            6666666, 9999999, 10123456, 16543210, 10000000, 20123456, HIGH
        };
        for (int digits : none) is("which(" + digits + ")", x.which(digits), OUTSIDE);
        // One above and below by 2 to the 32 would be a row.
        is("which of what comes round", x.which((int) (123456L + (1L << 31))), OUTSIDE);
        for (int place = 1, k = 0; k < 7; k++, place *= 10) {
            for (int digit = 7; digit <= 9; digit++) {
                int own = 6543210 / place % 10;
                int digits = 6543210 + (digit - own) * place;
                is("which(" + digits + ")", x.which(digits), OUTSIDE);
            }
        }
    }

    @Says(promise = 11, words = "NOT: a RULE is against it.")
    static void outsideComesFirstWhereARuleIsAgainst() {
        tell("first 0");
        is("which(0123456)", x.which(123456), NOT);
        is("which(0123455)", x.which(123455), OUTSIDE);
        tell("free;" + NO_ORDERS);
        is("none is left: which(0123456)", x.which(123456), NOT);
        is("none is left: which(6543210)", x.which(6543210), NOT);
        is("none is left: which(-1)", x.which(-1), OUTSIDE);
        tell("free");
        is("none is against it: which(0123456)", x.which(123456), 0);
    }

    @Says(promise = 11, words = "NOT: a RULE is against it.")
    static void ordersThatWereThereBeforeATextAreNoMore() {
        is("which(6012345)", x.which(6012345), 4320);
        tell("first 6");
        is("orders()", x.orders(), 4320);
        is("the first behind the last one: which(6012345)", x.which(6012345), NOT);
        is("order(4320, 0)", x.order(4320, 0), UNKNOWN);
        is("deal(4320)", x.deal(4320), UNKNOWN);
        is("the last one: which(5643210)", x.which(5643210), 4319);
        tell("free;" + NO_ORDERS);
        is("which(0123456)", x.which(123456), NOT);
        tell("free");
        is("which(6012345)", x.which(6012345), 4320);
    }

    // ---- promise 12

    @Says(promise = 12, words = "A WEEK is DEALT by an ORDER: what is earned in it.")
    static void theLeastAndTheMostThatIsEarned() {
        is("without WORKS", x.deal(0), 0);
        is("count(2)", x.count(2), 1);
        is("count(3)", x.count(3), 0);
        tell("double 6;" + "work 6 99 20;".repeat(5) + "feast 6 99 20");
        is("six on a DOUBLE", x.deal(5039), 6 * 198);
        is("count(3)", x.count(3), 6 * 198);
        is("count(4)", x.count(4), 63);
        tell("short 6");
        is("six on a SHORT", x.deal(0), 6 * 49);
        tell("idle;work 6 0 0");
        is("of WORTH 0", x.deal(0), 0);
        is("yet it is done", x.work(0, 6), 1);
    }

    @Says(promise = 12, words = "UNKNOWN; FULL: 999 were.")
    static void thereAreOrders0ToTheLastOne() {
        tell("first 0;work 0 7 0");
        for (int order : new int[] {LOW, -1, 4320, 5039, HIGH}) is("deal(" + order + ")", x.deal(order), UNKNOWN);
        is("nothing was dealt: count(2)", x.count(2), 0);
        is("nothing can be undone: count(7)", x.count(7), 0);
        is("deal(0)", x.deal(0), 7);
        is("deal(4319)", x.deal(4319), 7);
        is("count(2)", x.count(2), 2);
        tell(NO_ORDERS);
        is("none is left: deal(0)", x.deal(0), UNKNOWN);
        is("count(2)", x.count(2), 0);
    }

    @Says(promise = 12, words = "UNKNOWN; FULL: 999 were.")
    static void weeksAre999AtMost() {
        // More calls than are promised: within 512 no object comes to 999 WEEKS.
        tell("work 0 99 0;double 0");
        for (int n = 1; n <= 999; n++) is("deal(0)", x.deal(0), 198);
        is("count(2)", x.count(2), 999);
        is("deal(0)", x.deal(0), FULL);
        is("the first refusal is UNKNOWN", x.deal(5040), UNKNOWN);
        is("deal(-1)", x.deal(-1), UNKNOWN);
        is("count(2)", x.count(2), 999);
        is("count(3)", x.count(3), 999 * 198);
        is("count(7)", x.count(7), 8);
        is("work(0, 6)", x.work(0, 6), 999);
        is("keep(0)", x.keep(0), 999);
        is("undo()", x.undo(), 7);
        is("there is room for one", x.deal(0), 198);
        is("and for no more", x.deal(0), FULL);
        is("back(0)", x.back(0), 999);
        is("deal(0)", x.deal(0), FULL);
        tell("plain 0");
        is("behind a text there is room", x.deal(0), 99);
    }

    @Says(promise = 12, words = "A WEEK is DEALT by an ORDER: its DAYS come one after another.")
    static void aPartIsUsedOnADayThatComesLater() {
        for (int one = 0; one <= 6; one++) {
            for (int two = 0; two <= 6; two++) {
                if (one == two) continue;
                anew(PAIR);
                int row = rowWith(0, one, 1, two);
                is("deal of " + row, dealt(row), one < two ? 30 : 10);
            }
        }
    }

    // ---- what is done on a DAY

    @Says(promise = 12, words = "On each DAY: first all that is there is a day older; what is older than its WORK KEEPS it is there no more.")
    static void withinAWeekAPartKeepsToItsLastDay() {
        for (int keeps = 0; keeps <= 7; keeps++) {
            for (int days = 1; days <= 6; days++) {
                anew("work 0 10 " + keeps + ";work 1 20 0;behind 1 0");
                is("keeps " + keeps + ", " + days + " days old", dealt(rowWith(0, 0, 1, days)), days <= keeps ? 30 : 10);
                anew("work 0 10 " + keeps);
                dealt(rowWith(0, 6 - days, 1, days == 6 ? 1 : 0));
                is("keeps " + keeps + ", age behind the WEEK", x.work(0, 5), days <= keeps ? days : NONE);
            }
        }
    }

    @Says(promise = 12, words = "On each DAY: first all that is there is a day older; what is older than its WORK KEEPS it is there no more.")
    static void acrossTwoWeeksAPartKeepsToItsLastDay() {
        for (int made = 1; made <= 6; made++) {
            for (int used = 0; used <= 5; used++) {
                int days = 7 - made + used;
                for (int keeps : new int[] {days - 1, days, days + 1, 20}) {
                    anew("work 0 10 " + keeps + ";work 1 20 0;behind 1 0");
                    is("made too late", dealt(rowWith(0, made, 1, 0)), 10);
                    is("keeps " + keeps + ", " + days + " days old", dealt(rowWith(0, 6, 1, used)), days <= keeps ? 30 : 10);
                }
            }
        }
    }

    @Says(promise = 12, words = "On each DAY: first all that is there is a day older; what is older than its WORK KEEPS it is there no more.")
    static void aPartThatIsNotMadeAnewKeepsToItsLastDay() {
        // WORK 0 is done once, as WORK 2's PART, which it needs, is MADE READY once.
        String once = ";fast 2;feast 2 1 20;behind 0 2;behind 1 0";
        for (int keeps : new int[] {11, 12, 13}) {
            anew("work 0 10 " + keeps + ";work 1 20 0" + once);
            x.ready(2);
            is("made too late", dealt(rowWith(0, 1, 1, 0)), 10);
            is("keeps " + keeps + ", 12 days old", dealt(rowWith(0, 0, 1, 6)), keeps >= 12 ? 20 : 0);
        }
        for (int keeps = 14; keeps <= 20; keeps++) {
            for (int place = 0; place <= 6; place++) {
                // WORK 1 is a FEAST on a FAST, which uses nothing up.
                anew("fast 1;work 0 10 " + keeps + ";feast 1 20 0" + once);
                x.ready(2);
                dealt(rowWith(0, place, 2, (place + 3) % 7));
                x.deal(0);
                x.deal(5039);
                int days = 6 - place + 14;
                is("keeps " + keeps + ", " + days + " days old", x.work(0, 5), days <= keeps ? days : NONE);
            }
        }
    }

    @Says(promise = 12, words = "Then its WORKS, by their numbers: a FEAST is not done on a FAST;")
    static void aFeastIsDoneOnEveryDayButAFast() {
        String[] words = {"plain", "double", "short", "fast"};
        int[] due = {15, 30, 7, 0};
        for (int kind = 0; kind < 4; kind++) {
            anew(words[kind] + " 3;feast 3 15 9");
            is("a FEAST, " + words[kind], x.deal(0), due[kind]);
            is("its PART", x.work(0, 5), kind == 3 ? NONE : 3);
            is("how often", x.work(0, 6), kind == 3 ? 0 : 1);
            anew(words[kind] + " 3;work 3 15 9");
            is("a WORK, " + words[kind], x.deal(0), kind == 3 ? 15 : due[kind]);
        }
        anew("fast 3;work 2 1 9;feast 3 15 9;behind 1 0");
        is("a FEAST on a FAST uses nothing up", x.deal(0), 1);
        is("count(4)", x.count(4), 1);
    }

    @Says(promise = 12, words = "Then its WORKS, by their numbers:")
    static void worksOfOneDayAreDoneByTheirNumbers() {
        tell("work 3 1 0;work 3 2 0;work 3 4 0;work 3 8 0;work 3 16 0;work 3 32 0;behind 1 0;behind 2 1;behind 3 2;behind 4 3;behind 5 4");
        is("each behind the one ahead, all keep 0 days", x.deal(0), 63);
        tell("idle;work 3 1 0;work 3 2 0;work 3 4 0;behind 0 1;behind 1 2");
        is("each behind the one behind it", x.deal(0), 4);
        is("and a WEEK later, as they keep 0 days", x.deal(0), 4);
        tell("idle;work 3 1 7;work 3 2 7;work 3 4 7;behind 0 1;behind 1 2");
        is("the first WEEK", x.deal(0), 4);
        is("the second WEEK, by what is 7 days old", x.deal(0), 6);
        is("the third WEEK", x.deal(0), 7);
        tell("idle;work 3 1 6;work 3 2 6;work 3 4 6;behind 0 1;behind 1 2");
        x.deal(0);
        is("the second WEEK, if it keeps 6 days", x.deal(0), 4);
    }

    @Says(promise = 12, words = "one that is BEHIND another is done if that one's PART is there, which is used up then;")
    static void aPartIsUsedOnce() {
        tell("work 0 1 20;work 1 2 20;work 2 4 20;work 3 8 20;behind 1 0;behind 2 0;behind 3 0");
        is("one of three", dealt(123456), 3);
        is("its PART is used up", x.work(0, 5), NONE);
        is("another of three", dealt(321456), 9);
        tell("idle;work 0 1 20;work 0 2 20;work 0 4 20;behind 1 0;behind 2 0");
        is("on the same DAY, one of two", x.deal(0), 3);
        tell("idle;fast 0;feast 0 1 20;work 1 2 20;work 1 4 20;work 2 8 20;behind 1 0;behind 2 0;behind 3 0");
        x.ready(0);
        ratio("of two on one DAY the first: odds(1)", p -> x.odds(1, p), 1, 2);
        ratio("never the other: odds(2)", p -> x.odds(2, p), 0, 1);
        is("one of them, by what was MADE READY", x.deal(0), 2);
        is("and no more", x.deal(0), 0);
        tell("calendar;work 0 1 20;work 1 2 20;behind 1 0;behind 0 1");
        is("each behind the other, nothing there", x.deal(0), 0);
        x.ready(0);
        is("it is used up where the other is done", x.deal(0), 2);
        is("count(4)", x.count(4), 2);
        is("and the other one's in the next WEEK", x.deal(0), 3);
    }

    @Says(promise = 12, words = "what is done earns its WORTH (on a DOUBLE twice, on a SHORT half, cut), and its PART is there, of age 0 (in place of one that is).")
    static void halvesAreCut() {
        for (int worth = 0; worth <= 99; worth++) {
            anew("double 1;short 2;fast 3;work 0 " + worth + " 0");
            is("PLAIN", x.deal(0), worth);
            tell("idle;work 1 " + worth + " 0");
            is("DOUBLE", x.deal(0), worth + worth);
            tell("idle;work 2 " + worth + " 0");
            is("SHORT", x.deal(0), (worth - worth % 2) / 2);
            tell("idle;work 3 " + worth + " 0");
            is("FAST", x.deal(0), worth);
        }
        anew("short 0;work 0 1 0;work 0 1 0;work 0 3 0");
        is("each is cut by itself", x.deal(0), 1);
    }

    @Says(promise = 12, words = "and its PART is there, of age 0 (in place of one that is).")
    static void aPartIsThereInPlaceOfOneThatIs() {
        tell("work 0 1 20;work 1 2 20;behind 1 0");
        dealt(1234560);
        is("made on the last DAY", x.work(0, 5), 0);
        dealt(1023456);
        is("it was used, then made anew", x.work(0, 5), 5);
        dealt(6543210);
        is("it was used, then made anew", x.work(0, 5), 0);
        tell("idle;work 0 1 20");
        x.ready(0);
        is("one is there", x.count(4), 1);
        dealt(1234560);
        is("it is as if made anew", x.work(0, 5), 0);
        dealt(123456);
        is("and again", x.work(0, 5), 6);
    }

    // ---- promise 13

    @Says(promise = 13, words = "A PART is MADE READY: how many are there.")
    static void noneToSixAreThere() {
        tell(SIX_WORKS);
        is("count(4)", x.count(4), 0);
        int[] works = {5, 0, 3, 1, 4, 2};
        int bits = 0;
        for (int n = 1; n <= 6; n++) {
            is("ready", x.ready(works[n - 1]), n);
            bits |= 1 << works[n - 1];
            is("count(4)", x.count(4), bits);
        }
        for (int w = 0; w < 6; w++) is("ready(" + w + ")", x.ready(w), NOT);
        is("count(7)", x.count(7), 6);
    }

    @Says(promise = 13, words = "A PART can be MADE READY: it is there, of age 0.")
    static void whatIsMadeReadyIsADayOldOnTheFirstDay() {
        for (int keeps = 0; keeps <= 8; keeps++) {
            for (int place = 0; place <= 5; place++) {
                anew("work 0 10 " + keeps + ";work 1 20 0;behind 1 0");
                x.ready(0);
                is("work(0, 5)", x.work(0, 5), 0);
                is("it is not done for that", x.work(0, 6), 0);
                is("nothing is earned for that", x.count(3), 0);
                is("keeps " + keeps + ", used at place " + place, dealt(rowWith(0, 6, 1, place)), place + 1 <= keeps ? 30 : 10);
            }
        }
    }

    @Says(promise = 13, words = "UNKNOWN; NOT: it is there.")
    static void whatIsThereIsNotMadeReady() {
        is("no WORKS: ready(0)", x.ready(0), UNKNOWN);
        tell("work 0 1 6;work 1 1 4");
        for (int w : new int[] {LOW, -1, 2, 6, HIGH}) is("ready(" + w + ")", x.ready(w), UNKNOWN);
        is("ready(0)", x.ready(0), 1);
        is("ready(0)", x.ready(0), NOT);
        is("count(7)", x.count(7), 1);
        x.deal(0);
        is("WORK 0 keeps 6 days: ready(0)", x.ready(0), NOT);
        is("WORK 1 kept 4 days of 5: ready(1)", x.ready(1), 2);
        is("its age", x.work(1, 5), 0);
        is("the other one's", x.work(0, 5), 6);
        is("count(7)", x.count(7), 3);
    }

    // ---- promise 14

    @Says(promise = 14, words = "The latest deal(), ready() is undone (the last 8 can be): how many can be undone yet.")
    static void theLast8CanBeUndone() {
        for (int changes : new int[] {1, 7, 8, 9, 15, 16, 17, 40}) {
            anew("work 0 1 0");
            times(changes, () -> x.deal(0));
            int can = Math.min(changes, 8);
            is("count(7)", x.count(7), can);
            for (int n = can - 1; n >= 0; n--) {
                is("undo()", x.undo(), n);
                is("count(7)", x.count(7), n);
                is("count(2)", x.count(2), changes - can + n);
                is("count(3)", x.count(3), changes - can + n);
                is("work(0, 6)", x.work(0, 6), changes - can + n);
            }
            is("undo() behind the last one", x.undo(), NOT);
            is("count(2)", x.count(2), changes - can);
        }
    }

    @Says(promise = 14, words = "The latest deal(), ready() is undone (the last 8 can be): how many can be undone yet.")
    static void behindAnUndoOthersCanBeUndone() {
        tell("work 0 1 20;feast 1 1 20;fast 1;feast 2 1 20;fast 2");
        times(9, () -> x.deal(0));
        times(5, () -> x.undo());
        is("count(7)", x.count(7), 3);
        is("ready(1)", x.ready(1), 2);
        is("ready(2)", x.ready(2), 3);
        is("count(7)", x.count(7), 5);
        times(4, () -> x.deal(0));
        is("count(7)", x.count(7), 8);
        is("count(2)", x.count(2), 8);
        for (int n = 7; n >= 4; n--) is("a deal: undo()", x.undo(), n);
        is("count(2)", x.count(2), 4);
        is("count(4)", x.count(4), 7);
        is("ready(2): undo()", x.undo(), 3);
        is("count(4)", x.count(4), 3);
        is("ready(1): undo()", x.undo(), 2);
        is("count(4)", x.count(4), 1);
        is("a deal: undo()", x.undo(), 1);
        is("a deal: undo()", x.undo(), 0);
        is("count(2)", x.count(2), 2);
        is("undo()", x.undo(), NOT);
    }

    @Says(promise = 14, words = "The latest deal(), ready() is undone (the last 8 can be): how many can be undone yet.")
    static void allThatAWeekChangedIsAsBefore() {
        tell(PAIR);
        x.known(0, 1, 1);
        times(4, () -> dealt(123456));
        dealt(1023456);
        is("fit(2)", x.fit(2), 14);
        ratio("doubt(1)", p -> x.doubt(1, p), 1105, 2401);
        is("undo()", x.undo(), 4);
        is("the WEEK that is the fourth again: fit(2)", x.fit(2), 15);
        ratio("doubt(1)", p -> x.doubt(1, p), 1, 1);
        is("count(3)", x.count(3), 120);
        is("count(4)", x.count(4), 2);
        is("work(0, 5)", x.work(0, 5), NONE);
        is("work(1, 5)", x.work(1, 5), 5);
        is("work(1, 6)", x.work(1, 6), 4);
        ratio("odds(1)", p -> x.odds(1, p), 1, 2);
    }

    @Says(promise = 14, words = "The latest deal(), ready() is undone (the last 8 can be): how many can be undone yet.")
    static void onlyDealAndReadyAreUndone() {
        tell(PAIR);
        x.ready(0);
        x.keep(0);
        x.bet(0, 1, 1);
        x.known(0, 1, 1);
        put("free");
        is("count(7)", x.count(7), 1);
        is("undo()", x.undo(), 0);
        is("count(4)", x.count(4), 0);
        is("BETS stay", x.count(5), 1);
        is("what is KNOWN stays", x.count(6), 1);
        is("THE TEXT stays", x.count(8), 4);
        is("what is kept stays", x.back(0), 0);
        is("count(4)", x.count(4), 1);
    }

    @Says(promise = 14, words = "NOT: none.")
    static void nothingCanBeUndone() {
        is("at first", x.undo(), NOT);
        tell(PAIR);
        is("behind a text", x.undo(), NOT);
        x.deal(5040);
        x.ready(2);
        is("behind refused calls", x.undo(), NOT);
        x.ready(0);
        x.ready(0);
        is("of a refused one: undo()", x.undo(), 0);
        is("undo()", x.undo(), NOT);
        is("count(7)", x.count(7), 0);
        x.keep(0);
        x.deal(0);
        x.back(0);
        is("behind back()", x.undo(), NOT);
        x.deal(0);
        tell("free");
        is("behind a text", x.undo(), NOT);
    }

    // ---- promises 15, 16

    @Says(promise = 15, words = "All as it is (what is there, earned, done, WEEKS) is kept (k 0, 1): how many WEEKS were DEALT.")
    static void twoAreKeptEachByItself() {
        tell(PAIR);
        is("nothing yet: keep(0)", x.keep(0), 0);
        dealt(1023456);
        is("keep(1)", x.keep(1), 1);
        dealt(1023456);
        dealt(1023456);
        is("back(0)", x.back(0), 0);
        for (int what = 2; what <= 4; what++) is("count(" + what + ")", x.count(what), 0);
        is("work(0, 6)", x.work(0, 6), 0);
        is("back(1)", x.back(1), 1);
        is("count(3)", x.count(3), 10);
        is("count(4)", x.count(4), 1);
        is("work(0, 5)", x.work(0, 5), 5);
        is("work(0, 6)", x.work(0, 6), 1);
        is("work(1, 6)", x.work(1, 6), 0);
        x.known(1, 0, 1);
        is("fit(2)", x.fit(2), 1);
        ratio("doubt(1)", p -> x.doubt(1, p), 1, 7);
    }

    @Says(promise = 15, words = "All as it is (what is there, earned, done, WEEKS) is kept (k 0, 1): how many WEEKS were DEALT.")
    static void whatIsKeptAnewIsInPlaceOfTheOld() {
        tell(PAIR);
        x.keep(0);
        x.deal(0);
        is("keep(0)", x.keep(0), 1);
        x.deal(0);
        is("keep(0)", x.keep(0), 2);
        x.deal(0);
        is("keeping does not hinder an undo: undo()", x.undo(), 2);
        is("back(0)", x.back(0), 2);
        x.deal(0);
        is("back(0) once more", x.back(0), 2);
        is("count(3)", x.count(3), 60);
    }

    @Says(promise = 15, words = "UNKNOWN: no such k.")
    static void noSuchKToKeep() {
        for (int k : new int[] {LOW, -1, 2, HIGH}) is("keep(" + k + ")", x.keep(k), UNKNOWN);
        is("back(0)", x.back(0), NOT);
        is("back(1)", x.back(1), NOT);
    }

    @Says(promise = 16, words = "It is as it was kept, nothing can be undone: how many WEEKS were DEALT.")
    static void behindBackNothingCanBeUndone() {
        tell(PAIR);
        times(3, () -> x.deal(0));
        x.keep(0);
        times(9, () -> x.deal(0));
        is("count(7)", x.count(7), 8);
        is("back(0)", x.back(0), 3);
        is("count(7)", x.count(7), 0);
        is("undo()", x.undo(), NOT);
        is("count(2)", x.count(2), 3);
        x.deal(0);
        is("what comes behind it can: undo()", x.undo(), 0);
        is("count(2)", x.count(2), 3);
        is("undo()", x.undo(), NOT);
    }

    @Says(promise = 16, words = "It is as it was kept, nothing can be undone: how many WEEKS were DEALT.")
    static void betsAndWhatIsKnownAreNotOfWhatIsKept() {
        tell(PAIR);
        x.bet(0, 1, 1);
        x.known(0, 1, 1);
        put("fr");
        x.keep(0);
        x.call();
        x.forget();
        x.known(1, 0, 1);
        x.known(1, 0, 1);
        put("ee");
        is("back(0)", x.back(0), 0);
        is("count(5)", x.count(5), 0);
        is("count(6)", x.count(6), 2);
        is("count(8)", x.count(8), 4);
    }

    @Says(promise = 16, words = "UNKNOWN; NOT: nothing was kept since the last text.")
    static void nothingWasKeptSinceTheLastText() {
        for (int k : new int[] {LOW, -1, 2, HIGH}) is("back(" + k + ")", x.back(k), UNKNOWN);
        is("at first", x.back(0), NOT);
        is("at first", x.back(1), NOT);
        x.keep(1);
        is("the other one was kept", x.back(0), NOT);
        is("back(1)", x.back(1), 0);
        x.deal(0);
        x.deal(0);
        put("fre");
        is("a text that is not done", x.calendar(), NOT);
        is("back(0)", x.back(0), NOT);
        is("nothing changed: count(7)", x.count(7), 2);
        is("nothing changed: count(2)", x.count(2), 2);
        is("back(1)", x.back(1), 0);
        x.keep(0);
        put("e");
        is("calendar()", x.calendar(), 1);
        is("back(0)", x.back(0), NOT);
        is("back(1)", x.back(1), NOT);
        is("back(2)", x.back(2), UNKNOWN);
    }
}
