import java.util.Arrays;

/** Each promise of the document by calls whose answers were found by hand: ordinary ones, edges, wrong ones. */
public final class PromisesTest {
    private static final int NONE = -1, UNKNOWN = -2, OUTSIDE = -3, NOT = -4, FULL = -5;
    private static final int LOW = Integer.MIN_VALUE, HIGH = Integer.MAX_VALUE;
    /** WORK 1 on DAY 1 is BEHIND WORK 0 on DAY 0, whose PART never spoils within two weeks. */
    private static final String PAIR = "work 0 10 20;work 1 20 9;behind 1 0";
    private static final String ONE_ORDER = "ahead 0 1;ahead 1 2;ahead 2 3;ahead 3 4;ahead 4 5;ahead 5 6";
    /** No row can have 0 both ahead of 1 and behind it. */
    private static final String NO_ORDERS = "work 0 10 20;ahead 0 1;ahead 1 0";

    private static int wrong;
    private static int promise;
    private static MondayDeal x;

    public static void main(String[] args) {
        aNewObject();
        write();
        erase();
        fault();
        faultOfNumbers();
        faultOfMany();
        calendar();
        calendarForgets();
        day();
        work();
        as();
        orders();
        order();
        which();
        deal();
        dealOfParts();
        dealOfWeeks();
        dealOfKinds();
        ready();
        undo();
        keepAndBack();
        odds();
        mean();
        safe();
        bestAndWorst();
        makeReady();
        fair();
        beside();
        across();
        waits();
        bet();
        call();
        sure();
        known();
        forget();
        fit();
        at();
        doubt();
        loose();
        count();
        foretellingChangesNothing();
        System.out.println(wrong == 0 ? "PromisesTest: as due" : "PromisesTest: " + wrong + " answers are not as due");
        if (wrong != 0) System.exit(1);
    }

    private static void is(String call, long got, long want) {
        if (got != want) {
            wrong++;
            System.out.println("promise " + promise + ": " + call + " answered " + got + ", due is " + want);
        }
    }

    private static void put(String text) {
        for (int i = 0; i < text.length(); i++) x.write(text.charAt(i));
    }

    private static void tell(String text) {
        x.erase();
        put(text);
        int got = x.calendar();
        if (got < 1) is("calendar() of " + text, got, 1);
    }

    private static void anew(int number, String text) {
        promise = number;
        x = new MondayDeal();
        if (!text.isEmpty()) tell(text);
    }

    private static void aNewObject() {
        anew(1, "");
        for (int d = 0; d < 7; d++) {
            is("day(d, 0)", x.day(d, 0), 0);
            is("day(d, 1)", x.day(d, 1), 0);
        }
        for (int what = 0; what < 9; what++) is("count(" + what + ")", x.count(what), 0);
        is("orders()", x.orders(), 5040);
        is("back(0)", x.back(0), NOT);
        is("undo()", x.undo(), NOT);
        MondayDeal other = new MondayDeal();
        tell("first 0");
        x.deal(0);
        is("count(1) of another one", other.count(1), 0);
        is("count(2) of another one", other.count(2), 0);
    }

    private static void write() {
        anew(2, "");
        is("write(-1)", x.write(-1), OUTSIDE);
        is("write(256)", x.write(256), OUTSIDE);
        is("write(LOW)", x.write(LOW), OUTSIDE);
        is("write(HIGH)", x.write(HIGH), OUTSIDE);
        is("count(8)", x.count(8), 0);
        is("write(0)", x.write(0), 1);
        is("write(255)", x.write(255), 2);
        for (int i = 3; i <= 160; i++) is("write", x.write(' '), i);
        is("write(' ')", x.write(' '), FULL);
        is("write(256)", x.write(256), OUTSIDE);
        is("count(8)", x.count(8), 160);
        x.erase();
        is("write('f')", x.write('f'), 1);
        put("ree");
        is("fault()", x.fault(), NONE);
    }

    private static void erase() {
        anew(3, PAIR);
        x.deal(0);
        put("fre");
        is("erase()", x.erase(), 3);
        is("erase()", x.erase(), 0);
        is("count(8)", x.count(8), 0);
        put("free");
        is("fault()", x.fault(), NONE);
        x.erase();
        for (int i = 0; i < 161; i++) x.write('a');
        is("erase()", x.erase(), 160);
        is("count(0)", x.count(0), 2);
        is("count(2)", x.count(2), 1);
    }

    private static void faultOf(String text, int want) {
        x.erase();
        put(text);
        is("fault() of [" + text + "]", x.fault(), want);
        is("count(8)", x.count(8), text.length());
        if (want != NONE) is("calendar() of [" + text + "]", x.calendar(), NOT);
    }

    private static void fault() {
        anew(4, "");
        faultOf("", 0);
        faultOf("   ", 3);
        faultOf("free", NONE);
        faultOf("  free  ", NONE);
        faultOf("free;idle;calendar", NONE);
        faultOf("free;", 5);
        faultOf("free ; ", 7);
        faultOf("free;;idle", 5);
        faultOf(";free", 0);
        faultOf("free idle", 5);
        faultOf("freeidle", 0);
        faultOf("fre", 0);
        faultOf("frees", 0);
        faultOf("freez", 0);
        faultOf("xree", 0);
        faultOf("Free", 0);
        faultOf("freE", 0);
        faultOf("free.", 4);
        faultOf("free 1", 5);
        faultOf("free\t", 4);
        faultOf("free" + (char) 233, 4);
        faultOf("free" + (char) 0, 4);
        faultOf("7", 0);
        faultOf("plain 0;double 1;short 2;fast 3;work 0 1 2;feast 1 2 3;behind 1 0", NONE);
        faultOf("first 0;beside 0 1;ahead 1 0;free;idle;calendar", NONE);
        faultOf("double5", NONE);
        faultOf("beside 1 2 3", 11);
        faultOf("first 1 2", 8);
        faultOf("ahead 1", 7);
        faultOf("ahead 1;", 7);
        faultOf("behind", 6);
        faultOf("work 0 1", 8);
        faultOf("work 0;1 1", 6);
        faultOf("plain a", 6);
        faultOf("plain `", 6);
        faultOf("plain {", 6);
        faultOf("plain /", 6);
        faultOf("plain :", 6);
    }

    private static void faultOfNumbers() {
        anew(4, "");
        for (String word : Arrays.asList("plain", "short", "first")) {
            faultOf(word + " 6", NONE);
            faultOf(word + " 06", NONE);
            faultOf(word + " 7", 6);
            faultOf(word + " 006", 6);
            faultOf(word + " 10", 6);
            faultOf(word + " -1", 6);
        }
        faultOf("work 6 99 20", NONE);
        faultOf("work 7 99 20", 5);
        faultOf("work 6 100 20", 7);
        faultOf("work 6 099 20", 7);
        faultOf("work 6 99 21", 10);
        faultOf("feast 6 99 020", 11);
        faultOf("feast 0 0 0", NONE);
        faultOf("beside 6 0", NONE);
        faultOf("beside 7 0", 7);
        faultOf("beside 0 7", 9);
        faultOf("beside 3 3", 9);
        faultOf("ahead 0 00", 8);
        faultOf("first 99999999999999999999", 6);
        faultOf("behind 0 1", 7);
        faultOf("work 0 1 1;behind 0 1", 20);
        faultOf("work 0 1 1;behind 0 0", 20);
        faultOf("work 0 1 1;behind 1 0", 18);
        faultOf("work 0 1 1;work 0 1 1;behind 0 1", NONE);
        faultOf("work 0 1 1;work 0 1 1;behind 0 1;behind 1 0", NONE);
        faultOf("work 0 1 1;work 0 1 1;idle;behind 0 1", 34);
        faultOf("work 0 1 1;work 0 1 1;calendar;behind 0 1", 38);
        tell("calendar;work 0 1 1;work 1 1 1");
        faultOf("behind 1 0", NONE);
        faultOf("behind 2 0", 7);
    }

    private static void faultOfMany() {
        anew(4, "");
        faultOf("work 0 1 1;".repeat(5) + "feast 0 1 1", NONE);
        faultOf("work 0 1 1;".repeat(6) + "work 0 1 1", 66);
        faultOf("work 0 1 1;".repeat(6) + "feast 9 9 9", 66);
        faultOf("work 0 1 1;".repeat(6) + "idle;work 0 1 1", NONE);
        faultOf("work 0 1 1;".repeat(6) + "calendar;work 0 1 1", NONE);
        faultOf("first 0;".repeat(5) + "ahead 0 1", NONE);
        faultOf("first 0;".repeat(6) + "first 0", 48);
        faultOf("first 0;".repeat(6) + "ahead 0 0", 48);
        faultOf("first 0;".repeat(6) + "beside", 48);
        faultOf("first 0;".repeat(6) + "free;first 0", NONE);
        faultOf("first 0;".repeat(6) + "calendar;first 0", NONE);
        faultOf("first 0;".repeat(6) + "idle;first 0", 53);
        faultOf("free;".repeat(13) + "free", NONE);
        faultOf("free;".repeat(14) + "free", 69);
        faultOf("free;".repeat(14), 69);
        faultOf("free;".repeat(13) + "free 1", 70);
        faultOf("free;".repeat(13), 65);
        tell("calendar;" + "first 0;".repeat(5) + "first 1");
        faultOf("first 2", 0);
        faultOf("free;first 2", NONE);
        faultOf("work 0 1 1;first 2", 11);
    }

    private static void calendar() {
        anew(5, "");
        is("calendar()", x.calendar(), NOT);
        put("double 3;short 3 ; fast 4");
        is("calendar()", x.calendar(), 3);
        is("count(8)", x.count(8), 0);
        is("day(3, 0)", x.day(3, 0), 2);
        is("day(4, 0)", x.day(4, 0), 3);
        put("plain 3;double 4 5");
        is("calendar()", x.calendar(), NOT);
        is("day(3, 0)", x.day(3, 0), 2);
        is("day(4, 0)", x.day(4, 0), 3);
        is("count(8)", x.count(8), 18);
        x.erase();
        put("plain 3");
        is("calendar()", x.calendar(), 1);
        is("day(3, 0)", x.day(3, 0), 0);
        is("day(4, 0)", x.day(4, 0), 3);
        tell("work 1 2 3;feast 2 3 4;behind 0 1;first 1;ahead 1 2");
        is("count(0)", x.count(0), 2);
        is("count(1)", x.count(1), 2);
        tell("free");
        is("count(0)", x.count(0), 2);
        is("count(1)", x.count(1), 0);
        is("work(0, 4)", x.work(0, 4), 1);
        tell("first 1;idle");
        is("count(0)", x.count(0), 0);
        is("count(1)", x.count(1), 1);
        is("day(4, 0)", x.day(4, 0), 3);
        tell("work 1 2 3;calendar");
        is("count(0)", x.count(0), 0);
        is("count(1)", x.count(1), 0);
        is("day(4, 0)", x.day(4, 0), 0);
        tell("work 1 2 3;work 1 2 3;behind 1 0");
        is("work(1, 4)", x.work(1, 4), 0);
        tell("idle;work 1 2 3;work 1 2 3");
        is("work(1, 4)", x.work(1, 4), NONE);
        put("free;".repeat(13) + "free");
        is("calendar()", x.calendar(), 14);
    }

    private static void calendarForgets() {
        anew(5, PAIR);
        x.deal(0);
        x.ready(0);
        x.keep(0);
        x.keep(1);
        x.bet(0, 1, 5);
        x.known(0, 1, 1);
        put("free 1");
        is("calendar()", x.calendar(), NOT);
        is("count(2)", x.count(2), 1);
        is("count(3)", x.count(3), 30);
        is("count(5)", x.count(5), 1);
        is("count(6)", x.count(6), 1);
        is("count(7)", x.count(7), 2);
        x.erase();
        tell("free");
        for (int what = 2; what < 9; what++) is("count(" + what + ")", x.count(what), 0);
        is("work(0, 5)", x.work(0, 5), NONE);
        is("work(0, 6)", x.work(0, 6), 0);
        is("back(0)", x.back(0), NOT);
        is("back(1)", x.back(1), NOT);
        is("undo()", x.undo(), NOT);
        is("fit(2)", x.fit(2), 0);
        is("doubt(0, 1)", x.doubt(0, 1), 1);
        is("mean(0)", x.mean(0), 20);
        is("orders()", x.orders(), 5040);
        tell("ahead 0 1");
        is("orders()", x.orders(), 2520);
        is("mean(0)", x.mean(0), 30);
    }

    private static void day() {
        anew(6, "double 1;short 2;fast 3;work 1 5 5;work 2 5 5;feast 1 5 5;first 4;ahead 0 1");
        for (int d = 0; d < 4; d++) is("day(d, 0)", x.day(d, 0), d);
        is("day(1, 1)", x.day(1, 1), 5);
        is("day(2, 1)", x.day(2, 1), 2);
        is("day(0, 1)", x.day(0, 1), 0);
        is("day(4, 2)", x.day(4, 2), 0);
        is("day(1, 2)", x.day(1, 2), 0);
        is("day(0, 2)", x.day(0, 2), 720);
        is("day(2, 2)", x.day(2, 2), 360);
        is("day(-1, 0)", x.day(-1, 0), UNKNOWN);
        is("day(7, 0)", x.day(7, 0), UNKNOWN);
        is("day(7, 9)", x.day(7, 9), UNKNOWN);
        is("day(0, -1)", x.day(0, -1), OUTSIDE);
        is("day(0, 3)", x.day(0, 3), OUTSIDE);
        tell(NO_ORDERS);
        is("day(2, 2)", x.day(2, 2), 0);
    }

    private static void work() {
        anew(7, "work 3 99 20;feast 6 0 0;behind 0 1");
        int[][] due = {{3, 99, 20, 0, 1, NONE, 0}, {6, 0, 0, 1, NONE, NONE, 0}};
        for (int w = 0; w < 2; w++) {
            for (int what = 0; what < 7; what++) is("work(" + w + ", " + what + ")", x.work(w, what), due[w][what]);
        }
        x.ready(0);
        is("work(0, 5)", x.work(0, 5), 0);
        x.deal(0);
        is("work(0, 5)", x.work(0, 5), 7);
        is("work(1, 5)", x.work(1, 5), 0);
        is("work(1, 6)", x.work(1, 6), 1);
        x.deal(0);
        is("work(0, 5)", x.work(0, 5), 14);
        is("work(1, 6)", x.work(1, 6), 2);
        x.deal(0);
        is("work(0, 5)", x.work(0, 5), NONE);
        is("work(2, 0)", x.work(2, 0), UNKNOWN);
        is("work(-1, 0)", x.work(-1, 0), UNKNOWN);
        is("work(2, 9)", x.work(2, 9), UNKNOWN);
        is("work(0, -1)", x.work(0, -1), OUTSIDE);
        is("work(0, 7)", x.work(0, 7), OUTSIDE);
    }

    private static void as() {
        anew(8, "double 1;short 2;fast 3");
        int[][] due = {{15, 15, NOT, NOT, NOT}, {30, 30, 30, NOT, NOT}, {7, 7, NOT, 7, NOT}, {15, NOT, NOT, NOT, 15}};
        for (int d = 0; d < 4; d++) {
            for (int kind = 0; kind < 5; kind++) is("as(" + d + ", " + kind + ")", x.as(d, kind), due[d][kind]);
            is("as(d, -1)", x.as(d, -1), OUTSIDE);
            is("as(d, 5)", x.as(d, 5), OUTSIDE);
        }
        is("as(7, 0)", x.as(7, 0), UNKNOWN);
        is("as(-1, 9)", x.as(-1, 9), UNKNOWN);
    }

    private static void orders() {
        anew(9, "");
        is("orders()", x.orders(), 5040);
        tell("first 3");
        is("orders()", x.orders(), 4320);
        tell("first 3");
        is("orders()", x.orders(), 4320);
        tell("free;ahead 5 2");
        is("orders()", x.orders(), 2520);
        tell("free;beside 5 2");
        is("orders()", x.orders(), 3600);
        tell("free;" + ONE_ORDER);
        is("orders()", x.orders(), 1);
        tell("free;ahead 0 1;ahead 1 0");
        is("orders()", x.orders(), 0);
    }

    private static void row(int order, String days) {
        for (int k = 0; k < 7; k++) is("order(" + order + ", " + k + ")", x.order(order, k), days.charAt(k) - '0');
    }

    private static void order() {
        anew(10, "");
        row(0, "0123456");
        row(1, "0123465");
        row(2, "0123546");
        row(720, "1023456");
        row(5039, "6543210");
        is("order(-1, 0)", x.order(-1, 0), UNKNOWN);
        is("order(5040, 9)", x.order(5040, 9), UNKNOWN);
        is("order(0, -1)", x.order(0, -1), OUTSIDE);
        is("order(0, 7)", x.order(0, 7), OUTSIDE);
        tell("first 0;beside 1 0;ahead 6 5");
        row(0, "1203465");
        is("order(orders(), 0)", x.order(x.orders(), 0), UNKNOWN);
        tell("free;ahead 6 5;ahead 5 4;ahead 4 3;ahead 3 2;ahead 2 1;ahead 1 0");
        row(0, "6543210");
        is("order(1, 0)", x.order(1, 0), UNKNOWN);
    }

    private static void which() {
        anew(11, "");
        for (int order = 0; order < 5040; order += 239) {
            int digits = 0;
            for (int k = 0; k < 7; k++) digits = digits * 10 + x.order(order, k);
            is("which(" + digits + ")", x.which(digits), order);
        }
        is("which(1023456)", x.which(1023456), 720);
        is("which(6543210)", x.which(6543210), 5039);
        int[] none = {-1, 0, 1234567, 123455, 6543211, 16543210, 7123456, 10123456, -123456, LOW, HIGH, 12345, 1234560 + 10000000};
        for (int digits : none) is("which(" + digits + ")", x.which(digits), OUTSIDE);
        tell("first 0;ahead 5 4;beside 2 6");
        is("which(123456)", x.which(123456), NOT);
        is("which(1023456)", x.which(1023456), NOT);
        is("which(1023546)", x.which(1023546), 0);
        is("which(1035426)", x.which(1035426), NOT);
        is("which(1035462)", x.which(1035462), NOT);
        is("which(1023455)", x.which(1023455), OUTSIDE);
        tell(NO_ORDERS);
        is("which(123456)", x.which(123456), NOT);
        is("which(7)", x.which(7), OUTSIDE);
    }

    private static int dealt(int digits) {
        return x.deal(x.which(digits));
    }

    private static void deal() {
        anew(12, PAIR);
        is("deal(0)", x.deal(0), 30);
        is("deal(1023456)", dealt(1023456), 10);
        is("count(2)", x.count(2), 2);
        is("count(3)", x.count(3), 40);
        is("work(0, 6)", x.work(0, 6), 2);
        is("work(1, 6)", x.work(1, 6), 1);
        is("deal(-1)", x.deal(-1), UNKNOWN);
        is("deal(5040)", x.deal(5040), UNKNOWN);
        is("deal(HIGH)", x.deal(HIGH), UNKNOWN);
        is("count(2)", x.count(2), 2);
        is("count(7)", x.count(7), 2);
        tell(NO_ORDERS);
        is("deal(0)", x.deal(0), UNKNOWN);
    }

    private static void dealOfParts() {
        anew(12, "work 0 10 1;work 1 20 9;behind 1 0");
        is("one day old, keeps 1", dealt(123456), 30);
        is("work(0, 5): used up", x.work(0, 5), NONE);
        is("work(1, 5)", x.work(1, 5), 5);
        is("two days old, keeps 1", dealt(213456), 10);
        is("work(0, 5): spoilt", x.work(0, 5), NONE);
        is("work(1, 5): twelve days, keeps 9", x.work(1, 5), NONE);
        is("made on the last day", dealt(1234560), 10);
        is("work(0, 5)", x.work(0, 5), 0);
        is("used on the next week's first day", dealt(1234560), 30);
        tell("calendar;work 2 10 0;work 2 5 3;behind 1 0");
        is("on one day, by their numbers", x.deal(0), 15);
        tell("idle;work 2 10 3;work 2 5 3;behind 0 1");
        is("on one day, against their numbers", x.deal(0), 5);
        is("a week later", x.deal(0), 5);
        tell("idle;work 2 10 3;work 2 5 7;behind 0 1");
        is("first week", x.deal(0), 5);
        is("seven days old, keeps 7", x.deal(0), 15);
        is("work(1, 5): made again", x.work(1, 5), 4);
        is("work(0, 5): too old", x.work(0, 5), NONE);
        tell("idle;work 0 1 20;work 1 2 20;work 2 4 20;behind 1 0;behind 2 0");
        is("one part serves one work", x.deal(0), 3);
        is("the other one, if it comes first", dealt(213456), 5);
        tell("idle;work 0 1 20;work 1 2 20;work 2 4 20;behind 1 0;behind 2 1");
        is("three, one behind another", x.deal(0), 7);
        is("only the last part is there", x.count(4), 4);
        is("in the wrong order", dealt(2103456), 1);
        is("two parts are there", x.count(4), 5);
        is("in the wrong order again", dealt(2103456), 3);
        is("in the wrong order once more", dealt(2103456), 7);
        tell("idle;work 0 1 20;work 1 2 20;behind 1 0;behind 0 1");
        is("each behind the other", x.deal(0), 0);
        x.ready(1);
        is("one is made ready", x.deal(0), 3);
        is("which is used up at last", x.count(4), 2);
    }

    private static void dealOfWeeks() {
        anew(12, "work 0 10 9;work 1 20 0;behind 1 0");
        is("made behind the work that needs it", dealt(1023456), 10);
        is("work(0, 5)", x.work(0, 5), 5);
        parts("odds(1)", x.odds(1, 0), x.odds(1, 1), 13, 14);
        is("nine days old, keeps 9", dealt(2341056), 30);
        is("work(0, 5)", x.work(0, 5), 2);
        is("three days old", dealt(1023456), 30);
        is("ten days old, keeps 9", dealt(2345106), 10);
        is("work(0, 5)", x.work(0, 5), 1);
        tell("calendar;fast 0;feast 0 10 20;work 1 2 20;work 2 4 20;behind 1 0;behind 2 0");
        x.ready(0);
        is("what was made ready serves one work", x.deal(0), 2);
        is("count(4)", x.count(4), 2);
        is("and is used up", x.deal(0), 0);
    }

    private static void dealOfKinds() {
        anew(12, "double 0;short 1;fast 2;work 0 15 3;work 1 15 3;work 2 15 3;feast 3 50 3");
        is("deal(0)", x.deal(0), 30 + 7 + 15 + 50);
        tell("fast 3;behind 0 3");
        is("no feast on a fast", x.deal(0), 7 + 15);
        x.ready(3);
        is("behind what was made ready", x.deal(0), 30 + 7 + 15);
        is("work(3, 5)", x.work(3, 5), NONE);
        is("work(3, 6)", x.work(3, 6), 0);
        tell("idle;work 0 10 20;feast 3 50 3;behind 1 0;double 3");
        is("a feast on a double", x.deal(0), 20 + 100);
        tell("fast 3");
        is("a feast on a fast uses nothing up", x.deal(0), 20);
        is("count(4)", x.count(4), 1);
        tell("idle;short 0;work 0 1 1;work 0 99 1;work 0 0 1");
        is("halves are cut, each by itself", x.deal(0), 49);
    }

    private static void ready() {
        anew(13, PAIR);
        is("ready(1)", x.ready(1), 1);
        is("ready(1)", x.ready(1), NOT);
        is("ready(0)", x.ready(0), 2);
        is("ready(2)", x.ready(2), UNKNOWN);
        is("ready(-1)", x.ready(-1), UNKNOWN);
        is("count(4)", x.count(4), 3);
        is("count(7)", x.count(7), 2);
        is("work(0, 5)", x.work(0, 5), 0);
        is("work(0, 6)", x.work(0, 6), 0);
        is("count(3)", x.count(3), 0);
        is("deal(1023456)", dealt(1023456), 30);
        tell("idle;work 0 10 0;work 1 20 0;behind 1 0");
        x.ready(0);
        is("one that keeps 0 days is too old on the first one", dealt(1023456), 10);
        tell("idle;work 0 10 1;work 1 20 0;behind 1 0");
        x.ready(0);
        is("one that keeps 1 day serves on the first one", dealt(1023456), 30);
        x.ready(0);
        is("and not on the second one", dealt(2103456), 10);
    }

    private static void undo() {
        anew(14, PAIR);
        is("undo()", x.undo(), NOT);
        x.ready(0);
        dealt(1023456);
        is("undo()", x.undo(), 1);
        is("count(2)", x.count(2), 0);
        is("count(3)", x.count(3), 0);
        is("work(0, 5)", x.work(0, 5), 0);
        is("work(1, 6)", x.work(1, 6), 0);
        is("undo()", x.undo(), 0);
        is("work(0, 5)", x.work(0, 5), NONE);
        is("undo()", x.undo(), NOT);
        x.ready(2);
        x.deal(9999);
        is("refused calls cannot be undone", x.undo(), NOT);
        for (int i = 0; i < 10; i++) dealt(i < 2 ? 123456 : 1023456);
        is("count(7)", x.count(7), 8);
        x.known(0, 1, 1);
        is("fit(2)", x.fit(2), 0);
        for (int i = 7; i >= 0; i--) is("undo()", x.undo(), i);
        is("undo()", x.undo(), NOT);
        is("count(2)", x.count(2), 2);
        is("the weeks of then are the last ones", x.fit(2), 3);
        is("count(6)", x.count(6), 1);
    }

    private static void keepAndBack() {
        anew(15, PAIR);
        is("keep(-1)", x.keep(-1), UNKNOWN);
        is("keep(2)", x.keep(2), UNKNOWN);
        is("keep(0)", x.keep(0), 0);
        x.deal(0);
        x.ready(0);
        is("keep(1)", x.keep(1), 1);
        is("count(7)", x.count(7), 2);
        promise = 16;
        is("back(-1)", x.back(-1), UNKNOWN);
        is("back(2)", x.back(2), UNKNOWN);
        dealt(1023456);
        dealt(1023456);
        x.bet(0, 1, 1);
        x.known(0, 1, 1);
        is("back(1)", x.back(1), 1);
        is("count(3)", x.count(3), 30);
        is("count(4)", x.count(4), 3);
        is("count(7)", x.count(7), 0);
        is("undo()", x.undo(), NOT);
        is("count(5)", x.count(5), 1);
        is("count(6)", x.count(6), 1);
        is("fit(2)", x.fit(2), 1);
        is("work(0, 6)", x.work(0, 6), 1);
        is("odds(1, 1)", x.odds(1, 1), 1);
        is("back(0)", x.back(0), 0);
        is("count(3)", x.count(3), 0);
        is("count(4)", x.count(4), 0);
        is("odds(1, 1)", x.odds(1, 1), 2);
        x.deal(0);
        is("back(1) once more", x.back(1), 1);
        is("work(1, 5)", x.work(1, 5), 5);
        promise = 15;
        is("keep(0) in place of what was kept", x.keep(0), 1);
        x.deal(0);
        is("back(0)", x.back(0), 1);
        promise = 16;
        tell("free");
        is("back(0)", x.back(0), NOT);
        is("keep(0)", x.keep(0), 0);
        is("back(1)", x.back(1), NOT);
        is("back(0)", x.back(0), 0);
    }

    private static void parts(String call, long above, long below, long wantAbove, long wantBelow) {
        is(call + " above", above, wantAbove);
        is(call + " below", below, wantBelow);
    }

    private static void odds() {
        anew(17, PAIR);
        parts("odds(0)", x.odds(0, 0), x.odds(0, 1), 1, 1);
        parts("odds(1)", x.odds(1, 0), x.odds(1, 1), 1, 2);
        is("odds(2, 0)", x.odds(2, 0), UNKNOWN);
        is("odds(-1, 7)", x.odds(-1, 7), UNKNOWN);
        is("odds(0, 2)", x.odds(0, 2), OUTSIDE);
        is("odds(0, -1)", x.odds(0, -1), OUTSIDE);
        x.ready(0);
        parts("odds(1)", x.odds(1, 0), x.odds(1, 1), 1, 1);
        x.undo();
        parts("odds(1)", x.odds(1, 0), x.odds(1, 1), 1, 2);
        tell("idle;work 0 10 1;work 1 20 9;behind 1 0;fast 6;feast 6 1 1");
        parts("odds(1)", x.odds(1, 0), x.odds(1, 1), 1, 7);
        parts("odds(2)", x.odds(2, 0), x.odds(2, 1), 0, 1);
        x.ready(0);
        parts("odds(1)", x.odds(1, 0), x.odds(1, 1), 2, 7);
        tell(NO_ORDERS);
        is("odds(0, 0)", x.odds(0, 0), NOT);
        is("odds(0, 2)", x.odds(0, 2), OUTSIDE);
        is("odds(4, 0)", x.odds(4, 0), UNKNOWN);
    }

    private static void mean() {
        anew(18, PAIR);
        parts("mean", x.mean(0), x.mean(1), 20, 1);
        is("mean(2)", x.mean(2), OUTSIDE);
        is("mean(-1)", x.mean(-1), OUTSIDE);
        tell("idle;work 0 10 1;work 1 20 9;behind 1 0");
        parts("mean", x.mean(0), x.mean(1), 90, 7);
        x.ready(0);
        parts("mean", x.mean(0), x.mean(1), 110, 7);
        x.deal(0);
        parts("mean", x.mean(0), x.mean(1), 90, 7);
        tell(ONE_ORDER);
        parts("mean", x.mean(0), x.mean(1), 30, 1);
        tell("free;" + NO_ORDERS);
        is("mean(0)", x.mean(0), NOT);
        is("mean(2)", x.mean(2), OUTSIDE);
    }

    private static void safe() {
        anew(19, PAIR);
        is("safe()", x.safe(), 1);
        x.ready(0);
        is("safe()", x.safe(), 3);
        tell("ahead 0 1");
        is("safe()", x.safe(), 3);
        tell("beside 0 1;idle;work 0 10 1;work 1 20 1;behind 1 0;fast 2;feast 2 1 1;feast 3 1 1");
        is("safe()", x.safe(), 9);
        tell("idle;feast 2 1 1");
        is("safe()", x.safe(), 0);
        tell("idle");
        is("safe()", x.safe(), 0);
        tell(NO_ORDERS + ";idle");
        is("safe()", x.safe(), NOT);
    }

    private static void bestAndWorst() {
        anew(20, PAIR);
        is("best(0)", x.best(0), 30);
        is("best(1)", x.best(1), 0);
        promise = 21;
        is("worst(0)", x.worst(0), 10);
        is("worst(1)", x.worst(1), 720);
        tell("idle;work 6 10 1;work 2 20 9;behind 1 0");
        promise = 20;
        is("best(0)", x.best(0), 30);
        is("best(1)", x.best(1), x.which(134562));
        promise = 21;
        is("worst(0)", x.worst(0), 10);
        is("worst(1)", x.worst(1), 0);
        tell("first 0;first 1;idle;work 0 10 20;work 1 20 20;behind 1 0;ahead 1 0");
        for (int what = 0; what < 2; what++) {
            promise = 20;
            is("best", x.best(what), what == 0 ? 10 : 0);
            promise = 21;
            is("worst", x.worst(what), what == 0 ? 10 : 0);
        }
        tell(NO_ORDERS);
        promise = 20;
        is("best(1)", x.best(1), NOT);
        is("best(2)", x.best(2), OUTSIDE);
        is("best(-1)", x.best(-1), OUTSIDE);
        promise = 21;
        is("worst(1)", x.worst(1), NOT);
        is("worst(2)", x.worst(2), OUTSIDE);
        is("worst(-1)", x.worst(-1), OUTSIDE);
    }

    private static void makeReady() {
        anew(22, PAIR);
        is("makeReady(1, 0)", x.makeReady(1, 0), 5040 * 30);
        is("makeReady(1, 1)", x.makeReady(1, 1), 1);
        is("makeReady(3, 1)", x.makeReady(3, 1), 1);
        x.ready(0);
        is("makeReady(2, 0)", x.makeReady(2, 0), 5040 * 30);
        is("makeReady(2, 1)", x.makeReady(2, 1), 0);
        // Each is behind the next: a part made ready lets one work be done.
        tell("idle;work 0 1 20;work 1 2 20;work 2 4 20;work 3 8 20;behind 0 3;behind 1 2;behind 2 1;behind 3 0;fast 6");
        is("makeReady(1, 1)", x.makeReady(1, 1), 1);
        is("makeReady(1, 0)", x.makeReady(1, 0), 5040 * 8 + 2520);
        is("makeReady(2, 1)", x.makeReady(2, 1), 3);
        tell("idle;work 0 5 0;work 1 7 20;behind 1 0");
        is("one that keeps 0 days is of no use", x.makeReady(3, 1), 0);
        is("makeReady(3, 0)", x.makeReady(3, 0), 5040 * 5);
        tell("idle;work 0 9 9;work 1 9 9;work 2 9 9;work 3 9 9;behind 2 0;behind 3 1;fast 0;fast 1");
        is("the least of several", x.makeReady(1, 1), 1);
        is("two", x.makeReady(2, 1), 3);
        is("no more than are of use", x.makeReady(3, 1), 3);
        is("makeReady(2, 0)", x.makeReady(2, 0), 5040 * 36);
        is("count(4)", x.count(4), 0);
        is("count(7)", x.count(7), 0);
        tell("idle;plain 0;work 0 10 1;work 1 20 9;behind 1 0");
        is("one that keeps 1 day serves on the first one", x.makeReady(1, 0), 79200);
        tell("idle;fast 4;feast 4 1 20;feast 4 2 20;feast 4 3 20;work 3 1 1;work 5 2 1;work 6 4 1");
        is("makeReady(3, 1)", x.makeReady(3, 1), 0);
        tell("behind 3 0;behind 4 1;behind 5 2");
        is("none is done else", x.makeReady(1, 0), 5040 * 4);
        is("makeReady(1, 1)", x.makeReady(1, 1), 4);
        is("makeReady(2, 1)", x.makeReady(2, 1), 6);
        is("makeReady(3, 1)", x.makeReady(3, 1), 7);
        is("makeReady(3, 0)", x.makeReady(3, 0), 5040 * 7);
        is("makeReady(0, 0)", x.makeReady(0, 0), OUTSIDE);
        is("makeReady(4, 0)", x.makeReady(4, 0), OUTSIDE);
        is("makeReady(1, 2)", x.makeReady(1, 2), OUTSIDE);
        is("makeReady(1, -1)", x.makeReady(1, -1), OUTSIDE);
        tell("idle;" + NO_ORDERS);
        is("makeReady(1, 0)", x.makeReady(1, 0), 0);
        is("makeReady(1, 1)", x.makeReady(1, 1), 0);
    }

    private static void fair() {
        anew(23, "");
        for (int k = 1; k < 8; k++) parts("fair(3, " + k + ")", x.fair(3, k, 0), x.fair(3, k, 1), k == 7 ? 1 : k, k == 7 ? 1 : 7);
        tell("first 0");
        parts("fair(0, 1)", x.fair(0, 1, 0), x.fair(0, 1, 1), 0, 1);
        parts("fair(0, 2)", x.fair(0, 2, 0), x.fair(0, 2, 1), 1, 6);
        parts("fair(0, 4)", x.fair(0, 4, 0), x.fair(0, 4, 1), 1, 2);
        parts("fair(1, 1)", x.fair(1, 1, 0), x.fair(1, 1, 1), 1, 6);
        is("fair(7, 1, 0)", x.fair(7, 1, 0), UNKNOWN);
        is("fair(-1, 0, 5)", x.fair(-1, 0, 5), UNKNOWN);
        is("fair(0, 0, 0)", x.fair(0, 0, 0), OUTSIDE);
        is("fair(0, 8, 0)", x.fair(0, 8, 0), OUTSIDE);
        is("fair(0, 1, 2)", x.fair(0, 1, 2), OUTSIDE);
        tell(NO_ORDERS);
        is("fair(0, 1, 0)", x.fair(0, 1, 0), NOT);
        is("fair(0, 8, 0)", x.fair(0, 8, 0), OUTSIDE);
        is("fair(0, 1, -1)", x.fair(0, 1, -1), OUTSIDE);
    }

    private static void beside() {
        anew(24, "");
        parts("beside(5, 2)", x.beside(5, 2, 0), x.beside(5, 2, 1), 2, 7);
        tell("ahead 2 5");
        parts("beside(5, 2)", x.beside(5, 2, 0), x.beside(5, 2, 1), 2, 7);
        parts("beside(2, 5)", x.beside(2, 5, 0), x.beside(2, 5, 1), 2, 7);
        tell("beside 2 5");
        parts("beside(5, 2)", x.beside(5, 2, 0), x.beside(5, 2, 1), 0, 1);
        is("beside(2, 2, 0)", x.beside(2, 2, 0), UNKNOWN);
        is("beside(7, 2, 0)", x.beside(7, 2, 0), UNKNOWN);
        is("beside(2, -1, 9)", x.beside(2, -1, 9), UNKNOWN);
        is("beside(2, 1, 2)", x.beside(2, 1, 2), OUTSIDE);
        tell(NO_ORDERS);
        is("beside(2, 1, 0)", x.beside(2, 1, 0), NOT);
        is("beside(2, 1, -1)", x.beside(2, 1, -1), OUTSIDE);
    }

    private static void across() {
        anew(25, "first 0");
        parts("across(0, 1)", x.across(0, 1, 0), x.across(0, 1, 1), 1, 36);
        parts("across(0, 0)", x.across(0, 0, 0), x.across(0, 0, 1), 0, 1);
        parts("across(1, 1)", x.across(1, 1, 0), x.across(1, 1, 1), 5, 216);
        parts("across(1, 0)", x.across(1, 0, 0), x.across(1, 0, 1), 0, 1);
        is("across(7, 0, 0)", x.across(7, 0, 0), UNKNOWN);
        is("across(0, 7, 0)", x.across(0, 7, 0), UNKNOWN);
        is("across(0, -1, 3)", x.across(0, -1, 3), UNKNOWN);
        is("across(0, 0, 2)", x.across(0, 0, 2), OUTSIDE);
        tell("free;ahead 4 3");
        parts("across(3, 4)", x.across(3, 4, 0), x.across(3, 4, 1), 4, 49);
        parts("across(4, 3)", x.across(4, 3, 0), x.across(4, 3, 1), 0, 1);
        parts("across(3, 0)", x.across(3, 0, 0), x.across(3, 0, 1), 2, 49);
        tell("free");
        parts("across(4, 4)", x.across(4, 4, 0), x.across(4, 4, 1), 1, 49);
        tell(NO_ORDERS);
        is("across(1, 1, 0)", x.across(1, 1, 0), NOT);
        is("across(1, 1, 2)", x.across(1, 1, 2), OUTSIDE);
    }

    private static void waits() {
        anew(26, "");
        is("waits(4)", x.waits(4), 13);
        tell("ahead 0 1;ahead 1 2");
        is("waits(0)", x.waits(0), 11);
        is("waits(1)", x.waits(1), 11);
        is("waits(2)", x.waits(2), 11);
        is("waits(3)", x.waits(3), 13);
        tell("free;first 0");
        is("waits(0)", x.waits(0), 12);
        tell("free;" + ONE_ORDER);
        for (int d = 0; d < 7; d++) is("waits", x.waits(d), 7);
        is("waits(7)", x.waits(7), UNKNOWN);
        is("waits(-1)", x.waits(-1), UNKNOWN);
        tell("free;" + NO_ORDERS);
        is("waits(0)", x.waits(0), NOT);
        is("waits(7)", x.waits(7), UNKNOWN);
    }

    private static void bet() {
        anew(27, NO_ORDERS);
        is("bet(0, 1, 0)", x.bet(0, 1, 0), 1);
        is("bet(6, 6, 99)", x.bet(6, 6, 99), 2);
        is("bet(6, 6, 99)", x.bet(6, 6, 99), 3);
        is("bet(7, 1, 0)", x.bet(7, 1, 0), UNKNOWN);
        is("bet(-1, 0, 0)", x.bet(-1, 0, 0), UNKNOWN);
        is("bet(0, 0, 0)", x.bet(0, 0, 0), OUTSIDE);
        is("bet(0, 7, 0)", x.bet(0, 7, 0), OUTSIDE);
        is("bet(0, 1, -1)", x.bet(0, 1, -1), OUTSIDE);
        is("bet(0, 1, 100)", x.bet(0, 1, 100), OUTSIDE);
        for (int n = 4; n <= 6; n++) is("bet(0, 1, 0)", x.bet(0, 1, 0), n);
        is("bet(0, 1, 0)", x.bet(0, 1, 0), FULL);
        is("bet(0, 1, 100)", x.bet(0, 1, 100), OUTSIDE);
        is("bet(7, 1, 100)", x.bet(7, 1, 100), UNKNOWN);
        is("count(5)", x.count(5), 6);
    }

    private static void call() {
        anew(28, "");
        is("call()", x.call(), 0);
        x.bet(0, 6, 1);
        x.bet(1, 6, 1);
        is("call()", x.call(), 2);
        is("count(5)", x.count(5), 0);
        is("sure(0)", x.sure(0), 0);
        is("bet(0, 6, 1)", x.bet(0, 6, 1), 1);
    }

    private static void sure() {
        anew(29, "");
        is("sure(0)", x.sure(0), 0);
        is("sure(1)", x.sure(1), 0);
        x.bet(0, 6, 40);
        is("one can lose", x.sure(0), 0);
        is("sure(1)", x.sure(1), 0);
        x.bet(1, 6, 40);
        is("one of two wins", x.sure(0), 20);
        is("sure(1)", x.sure(1), 3);
        x.bet(2, 6, 99);
        is("two of three win", x.sure(0), 21);
        is("sure(1)", x.sure(1), 7);
        x.call();
        x.bet(0, 6, 50);
        x.bet(1, 6, 50);
        is("nothing is won", x.sure(0), 0);
        is("sure(1)", x.sure(1), 0);
        is("sure(2)", x.sure(2), OUTSIDE);
        is("sure(-1)", x.sure(-1), OUTSIDE);
        tell("ahead 0 1");
        x.bet(1, 1, 0);
        x.bet(0, 6, 40);
        x.bet(1, 6, 40);
        x.bet(0, 6, 40);
        x.bet(6, 3, 0);
        is("sure(0)", x.sure(0), 120);
        is("what costs and wins nothing is left out", x.sure(1), 10);
        is("count(5)", x.count(5), 5);
        tell("free;" + ONE_ORDER);
        x.bet(0, 1, 99);
        is("one is won", x.sure(0), 1);
        is("sure(1)", x.sure(1), 1);
        x.bet(1, 1, 0);
        x.bet(1, 2, 9);
        is("sure(0)", x.sure(0), 92);
        is("sure(1)", x.sure(1), 5);
        tell("free;" + NO_ORDERS);
        is("sure(0)", x.sure(0), NOT);
        is("sure(2)", x.sure(2), OUTSIDE);
    }

    private static void known() {
        anew(30, "");
        is("known(0, 0, 1)", x.known(0, 0, 1), UNKNOWN);
        is("known(7, 0, 1)", x.known(7, 0, 1), UNKNOWN);
        is("known(0, -1, 4)", x.known(0, -1, 4), UNKNOWN);
        is("known(0, 1, 2)", x.known(0, 1, 2), OUTSIDE);
        is("known(0, 1, -1)", x.known(0, 1, -1), OUTSIDE);
        for (int n = 1; n <= 8; n++) is("known(0, 1, 1)", x.known(0, 1, 1), n);
        is("known(0, 1, 1)", x.known(0, 1, 1), FULL);
        is("known(0, 1, 2)", x.known(0, 1, 2), OUTSIDE);
        is("known(1, 1, 1)", x.known(1, 1, 1), UNKNOWN);
        is("count(6)", x.count(6), 8);
        is("fit(0)", x.fit(0), 2520);
    }

    private static void forget() {
        anew(31, "");
        is("forget()", x.forget(), 0);
        x.known(0, 1, 1);
        x.known(1, 0, 1);
        is("forget()", x.forget(), 2);
        is("forget()", x.forget(), 0);
        is("count(6)", x.count(6), 0);
        is("fit(0)", x.fit(0), 5040);
    }

    private static void fit() {
        anew(32, "");
        is("fit(0)", x.fit(0), 5040);
        is("fit(1)", x.fit(1), 0);
        is("fit(2)", x.fit(2), 0);
        x.known(0, 1, 0);
        is("fit(0)", x.fit(0), 2520);
        is("fit(1)", x.fit(1), 720);
        x.known(1, 2, 1);
        x.known(2, 0, 1);
        is("fit(0)", x.fit(0), 840);
        is("fit(1)", x.fit(1), x.which(1203456));
        dealt(1203456);
        is("fit(2)", x.fit(2), 1);
        dealt(123456);
        is("fit(2)", x.fit(2), 2);
        dealt(6543120);
        is("fit(2)", x.fit(2), 5);
        dealt(2103456);
        is("fit(2)", x.fit(2), 10);
        dealt(2103456);
        is("fit(2)", x.fit(2), 4);
        x.known(0, 1, 1);
        is("fit(0)", x.fit(0), 0);
        is("fit(1)", x.fit(1), NONE);
        is("fit(2)", x.fit(2), 0);
        x.forget();
        is("fit(2)", x.fit(2), 15);
        is("fit(3)", x.fit(3), OUTSIDE);
        is("fit(-1)", x.fit(-1), OUTSIDE);
        tell("ahead 1 0");
        x.known(0, 1, 1);
        is("fit(0)", x.fit(0), 0);
        x.forget();
        is("fit(1)", x.fit(1), 0);
    }

    private static void at() {
        anew(33, "ahead 0 1;ahead 1 2;ahead 2 3;ahead 3 4;ahead 4 5");
        is("at(0)", x.at(0), NONE);
        x.known(6, 0, 1);
        for (int k = 0; k < 7; k++) is("at(" + k + ")", x.at(k), (k + 6) % 7);
        x.forget();
        x.known(6, 2, 0);
        x.known(4, 6, 0);
        int[] due = {0, 1, 2, NONE, NONE, 4, 5};
        for (int k = 0; k < 7; k++) is("at(" + k + ")", x.at(k), due[k]);
        x.known(3, 2, 1);
        is("none fits", x.at(0), NONE);
        x.forget();
        x.known(6, 5, 0);
        for (int k = 0; k < 7; k++) is("at(" + k + ")", x.at(k), k);
        is("at(7)", x.at(7), OUTSIDE);
        is("at(-1)", x.at(-1), OUTSIDE);
        tell("free;" + NO_ORDERS);
        is("at(0)", x.at(0), NONE);
        is("at(7)", x.at(7), OUTSIDE);
    }

    private static void doubt() {
        anew(34, "");
        parts("no week", x.doubt(0, 0), x.doubt(0, 1), 1, 1);
        x.deal(0);
        parts("1 of 1", x.doubt(0, 0), x.doubt(0, 1), 1, 7);
        parts("0 of 1", x.doubt(1, 0), x.doubt(1, 1), 1, 1);
        x.deal(0);
        parts("2 of 2", x.doubt(0, 0), x.doubt(0, 1), 1, 49);
        dealt(1234560);
        parts("2 of 3", x.doubt(0, 0), x.doubt(0, 1), 3 * 6 + 1, 343);
        dealt(1234560);
        parts("2 of 4", x.doubt(0, 0), x.doubt(0, 1), 6 * 36 + 4 * 6 + 1, 2401);
        dealt(1234560);
        parts("1 of the last 4", x.doubt(0, 0), x.doubt(0, 1), 1105, 2401);
        parts("3 of the last 4", x.doubt(1, 0), x.doubt(1, 1), 25, 2401);
        x.deal(5039);
        parts("0 of the last 4", x.doubt(0, 0), x.doubt(0, 1), 1, 1);
        is("doubt(7, 0)", x.doubt(7, 0), UNKNOWN);
        is("doubt(-1, 5)", x.doubt(-1, 5), UNKNOWN);
        is("doubt(0, 2)", x.doubt(0, 2), OUTSIDE);
        is("doubt(0, -1)", x.doubt(0, -1), OUTSIDE);
        tell("beside 0 1;beside 1 2;beside 2 3;beside 3 4;beside 4 5;beside 5 6");
        // So many rows of seven have no two neighbours beside one another.
        is("orders()", x.orders(), 646);
        long first = x.day(3, 2);
        for (int i = 0; i < 4; i++) dealt(3051624);
        long above = first * first * first * first;
        long below = 646L * 646 * 646 * 646;
        long divisor = java.math.BigInteger.valueOf(above).gcd(java.math.BigInteger.valueOf(below)).longValue();
        parts("more than an int holds", x.doubt(3, 0), x.doubt(3, 1), above / divisor, below / divisor);
        is("it is so", below / divisor > Integer.MAX_VALUE ? 1 : 0, 1);
        tell("free;" + NO_ORDERS);
        is("doubt(0, 0)", x.doubt(0, 0), NOT);
        is("doubt(0, 2)", x.doubt(0, 2), OUTSIDE);
    }

    private static void isLoose(int day, int other, int size, int set) {
        is("loose(" + day + ", " + other + ", 0)", x.loose(day, other, 0), size);
        is("loose(" + day + ", " + other + ", 1)", x.loose(day, other, 1), set);
    }

    private static void loose() {
        anew(35, "");
        isLoose(0, 1, 0, 0);
        tell("ahead 1 0;beside 0 1;first 2");
        isLoose(0, 1, 2, 3);
        isLoose(1, 0, 1, 2);
        isLoose(2, 0, 0, 0);
        tell("free;ahead 1 0;ahead 0 1;ahead 1 0");
        isLoose(2, 3, 1, 2);
        isLoose(0, 1, 2, 5);
        tell("free;ahead 0 1;ahead 1 2;ahead 2 0;beside 3 4");
        isLoose(5, 6, 1, 1);
        isLoose(1, 0, 2, 3);
        isLoose(3, 4, 2, 9);
        tell("free;ahead 0 1;ahead 2 1;first 0;first 2;beside 0 1;beside 1 0");
        isLoose(0, 1, 2, 48);
        isLoose(1, 0, 3, 49);
        is("loose(0, 0, 0)", x.loose(0, 0, 0), UNKNOWN);
        is("loose(7, 0, 0)", x.loose(7, 0, 0), UNKNOWN);
        is("loose(0, -1, 4)", x.loose(0, -1, 4), UNKNOWN);
        is("loose(0, 1, 2)", x.loose(0, 1, 2), OUTSIDE);
        is("loose(0, 1, -1)", x.loose(0, 1, -1), OUTSIDE);
        is("count(1)", x.count(1), 6);
        tell("free;ahead 1 0;ahead 2 0;ahead 3 0;ahead 4 0;ahead 5 0;ahead 6 0");
        isLoose(0, 1, 1, 1);
        isLoose(0, 6, 1, 32);
        tell("free;ahead 2 0;ahead 3 0;ahead 4 1;ahead 5 1;ahead 0 1;beside 1 0");
        isLoose(1, 0, 2, 48);
    }

    private static void count() {
        anew(36, PAIR + ";first 1");
        x.deal(0);
        x.deal(0);
        x.deal(0);
        x.ready(0);
        x.bet(0, 1, 1);
        x.bet(0, 1, 1);
        for (int i = 0; i < 5; i++) x.known(0, 1, 1);
        put("idle;x");
        int[] due = {2, 1, 3, 90, 3, 2, 5, 4, 6};
        for (int what = 0; what < 9; what++) is("count(" + what + ")", x.count(what), due[what]);
        is("count(9)", x.count(9), OUTSIDE);
        is("count(-1)", x.count(-1), OUTSIDE);
        is("count(LOW)", x.count(LOW), OUTSIDE);
        is("count(HIGH)", x.count(HIGH), OUTSIDE);
    }

    private static void foretellingChangesNothing() {
        anew(17, PAIR);
        x.ready(0);
        x.deal(720);
        x.odds(0, 0);
        x.mean(0);
        x.safe();
        x.best(0);
        x.worst(0);
        x.makeReady(3, 0);
        x.sure(0);
        x.fit(1);
        x.loose(0, 1, 0);
        x.fault();
        is("count(2)", x.count(2), 1);
        is("count(3)", x.count(3), 30);
        is("count(4)", x.count(4), 3);
        is("count(7)", x.count(7), 2);
        is("work(0, 5)", x.work(0, 5), 5);
        is("work(1, 5)", x.work(1, 5), 6);
        is("work(0, 6)", x.work(0, 6), 1);
        is("orders()", x.orders(), 5040);
    }
}
