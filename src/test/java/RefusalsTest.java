import java.lang.reflect.Method;
import java.util.ArrayList;
import java.util.Arrays;
import java.util.List;
import java.util.function.Consumer;
import java.util.function.ToIntFunction;

/**
 * Every call with every set of arguments at and beside their bounds, on objects of several kinds: which refusal it is, the
 * first one that fits; and that a refused call, or one that only asks, changes nothing that other calls could show.
 */
public final class RefusalsTest extends Sentences {
    /** The calls that an object is used for at most. */
    private static final int MOST_CALLS = 512;

    /** An object as the calls find it, and what they must know of it. */
    private static final class Scene {
        final String name;
        final Consumer<MondayDeal> setUp;
        int works;
        int orders = 7;
        int[] kinds = new int[7];
        int there;
        int kept;
        boolean hasFault;
        boolean isFull;
        boolean canUndo = true;

        Scene(String name, Consumer<MondayDeal> setUp) {
            this.name = name;
            this.setUp = setUp;
        }
    }

    /** An argument: from which number to which it is as told, and the refusal if it is not. */
    private record Argument(int least, ToIntFunction<Scene> most, int refusal) {
        int[] values(Scene s) {
            int top = most.applyAsInt(s);
            return top < least ? new int[] {LOW, least - 1, least, HIGH} : new int[] {LOW, least - 1, least, top, top + 1, HIGH};
        }

        boolean isBad(Scene s, int value) {
            return value < least || value > most.applyAsInt(s);
        }
    }

    /** What else refuses a call whose arguments are all as told; 0: nothing does. */
    private interface Rest {
        int refusal(Scene s, int[] arguments);
    }

    private record Call(int promise, String name, boolean onlyAsks, Rest rest, Argument... arguments) { }

    private static final Argument DAY = new Argument(0, s -> 6, UNKNOWN);
    private static final Argument WORK = new Argument(0, s -> s.works - 1, UNKNOWN);
    private static final Argument ORDER = new Argument(0, s -> s.orders - 1, UNKNOWN);
    private static final Argument KEPT = new Argument(0, s -> 1, UNKNOWN);

    private static Argument number(int least, int most) {
        return new Argument(least, s -> most, OUTSIDE);
    }

    private static final Argument PART = number(0, 1);
    private static final Argument PLACE = number(0, 6);
    private static final Rest NOTHING = (s, a) -> 0;
    private static final Rest NO_ORDERS_LEFT = (s, a) -> s.orders == 0 ? NOT : 0;
    private static final Rest ALL_TAKEN = (s, a) -> s.isFull ? FULL : 0;

    private static int isSame(int[] a) {
        return a[0] == a[1] ? UNKNOWN : 0;
    }

    /** 0 DAY, 1 PLAIN, 2 DOUBLE, 3 SHORT, 4 FAST: what each KIND is. */
    private static final int[][] IS_ALSO = {{0, 1}, {0, 1, 2}, {0, 1, 3}, {0, 4}};

    private static int isNoneSuch(Scene s, int[] a) {
        return Arrays.stream(IS_ALSO[s.kinds[a[0]]]).anyMatch(kind -> kind == a[1]) ? 0 : NOT;
    }

    private static final Call[] CALLS = {
        new Call(2, "write", false, ALL_TAKEN, number(0, 255)),
        new Call(3, "erase", false, NOTHING),
        new Call(4, "fault", true, NOTHING),
        new Call(5, "calendar", false, (s, a) -> s.hasFault ? NOT : 0),
        new Call(6, "day", true, NOTHING, DAY, number(0, 2)),
        new Call(7, "work", true, NOTHING, WORK, number(0, 6)),
        new Call(8, "as", true, RefusalsTest::isNoneSuch, DAY, number(0, 4)),
        new Call(9, "orders", true, NOTHING),
        new Call(10, "order", true, NOTHING, ORDER, PLACE),
        new Call(12, "deal", false, NOTHING, ORDER),
        new Call(13, "ready", false, (s, a) -> (s.there >> a[0] & 1) != 0 ? NOT : 0, WORK),
        new Call(14, "undo", false, (s, a) -> s.canUndo ? 0 : NOT),
        new Call(15, "keep", false, NOTHING, KEPT),
        new Call(16, "back", false, (s, a) -> (s.kept >> a[0] & 1) == 0 ? NOT : 0, KEPT),
        new Call(17, "odds", true, NO_ORDERS_LEFT, WORK, PART),
        new Call(18, "mean", true, NO_ORDERS_LEFT, PART),
        new Call(19, "safe", true, NO_ORDERS_LEFT),
        new Call(20, "best", true, NO_ORDERS_LEFT, number(0, 1)),
        new Call(21, "worst", true, NO_ORDERS_LEFT, number(0, 1)),
        new Call(22, "makeReady", true, NOTHING, number(1, 3), number(0, 1)),
        new Call(23, "fair", true, NO_ORDERS_LEFT, DAY, number(1, 7), PART),
        new Call(24, "beside", true, NO_ORDERS_LEFT, DAY, DAY, PART),
        new Call(25, "across", true, NO_ORDERS_LEFT, DAY, DAY, PART),
        new Call(26, "waits", true, NO_ORDERS_LEFT, DAY),
        new Call(27, "bet", false, ALL_TAKEN, DAY, number(1, 6), number(0, 99)),
        new Call(28, "call", false, NOTHING),
        new Call(29, "sure", true, NO_ORDERS_LEFT, number(0, 1)),
        new Call(30, "known", false, ALL_TAKEN, DAY, DAY, number(0, 1)),
        new Call(31, "forget", false, NOTHING),
        new Call(32, "fit", true, NOTHING, number(0, 2)),
        new Call(33, "at", true, NOTHING, PLACE),
        new Call(34, "doubt", true, NO_ORDERS_LEFT, DAY, PART),
        new Call(35, "loose", true, NOTHING, DAY, DAY, number(0, 1)),
        new Call(36, "count", true, NOTHING, number(0, 8)),
    };
    private static final List<String> OF_TWO_DAYS = List.of("beside", "known", "loose");

    public static void main(String[] args) throws Exception {
        testAll(RefusalsTest.class);
    }

    // ---- scenes

    /** DAYS 0 .. 5 rise, 6 is anywhere. */
    private static final String TOLD = "double 1;short 2;fast 3;work 0 9 20;work 1 5 20;feast 3 7 20;behind 1 0;"
        + "ahead 0 1;ahead 1 2;ahead 2 3;ahead 3 4;ahead 4 5";

    private static void write(MondayDeal y, String text) {
        for (int i = 0; i < text.length(); i++) y.write(text.charAt(i));
    }

    private static List<Scene> scenes() {
        Scene fresh = new Scene("a new object", y -> { });
        fresh.orders = 5040;
        fresh.hasFault = true;
        fresh.canUndo = false;
        Scene lively = new Scene("some of all", y -> {
            write(y, TOLD);
            y.calendar();
            y.deal(6);
            y.keep(1);
            y.ready(2);
            y.bet(0, 2, 30);
            y.known(0, 6, 1);
            write(y, "free");
        });
        lively.works = 3;
        lively.kinds = new int[] {0, 1, 2, 3, 0, 0, 0};
        lively.there = 6;
        lively.kept = 2;
        Scene full = new Scene("as much of all as can be", y -> {
            write(y, TOLD);
            y.calendar();
            for (int i = 0; i < 7; i++) y.deal(i);
            y.keep(0);
            y.keep(1);
            y.ready(0);
            y.ready(2);
            for (int i = 0; i < 6; i++) y.bet(i, 6, 15);
            for (int i = 0; i < 8; i++) y.known(i % 7, (i + 1) % 7, i % 2);
            write(y, blanks(160));
        });
        full.works = 3;
        full.kinds = lively.kinds;
        full.there = 7;
        full.kept = 3;
        full.hasFault = true;
        full.isFull = true;
        Scene without = new Scene("no ORDERS", y -> {
            write(y, "work 0 9 20;fast 6;work 1 5 20;ahead 0 1;ahead 1 0");
            y.calendar();
            y.ready(1);
            y.keep(0);
            y.bet(0, 2, 30);
            y.known(0, 6, 1);
            write(y, "free;");
        });
        without.works = 2;
        without.orders = 0;
        without.kinds = new int[] {0, 0, 0, 0, 0, 0, 3};
        without.there = 2;
        without.kept = 1;
        without.hasFault = true;
        return List.of(fresh, lively, full, without);
    }

    // ---- what is asked

    private static Method methodOf(Call call) throws NoSuchMethodException {
        Class<?>[] types = new Class<?>[call.arguments.length];
        Arrays.fill(types, int.class);
        return MondayDeal.class.getMethod(call.name, types);
    }

    private static long ask(MondayDeal y, Call call, int[] arguments) throws Exception {
        Object[] values = Arrays.stream(arguments).boxed().toArray();
        return ((Number) methodOf(call).invoke(y, values)).longValue();
    }

    private static List<int[]> allArguments(Scene s, Call call) {
        List<int[]> all = new ArrayList<>(List.of(new int[0]));
        for (Argument argument : call.arguments) {
            List<int[]> longer = new ArrayList<>();
            for (int[] ahead : all) {
                for (int value : argument.values(s)) {
                    int[] more = Arrays.copyOf(ahead, ahead.length + 1);
                    more[ahead.length] = value;
                    longer.add(more);
                }
            }
            all = longer;
        }
        return all;
    }

    /** UNKNOWN, OUTSIDE, NOT, FULL fall in this order: the first that fits is the greatest. 0: none fits. */
    private static int due(Scene s, Call call, int[] arguments) {
        int first = LOW;
        for (int i = 0; i < arguments.length; i++) {
            if (call.arguments[i].isBad(s, arguments[i])) first = Math.max(first, call.arguments[i].refusal);
        }
        if (OF_TWO_DAYS.contains(call.name) && isSame(arguments) != 0) first = UNKNOWN;
        if (first != LOW) return first;
        return call.rest.refusal(s, arguments);
    }

    private static String named(Scene s, Call call, int[] arguments) {
        return "promise " + call.promise + ", " + s.name + ": " + call.name + Arrays.toString(arguments);
    }

    /** All that calls can show of an object; the object is worn out by it. */
    private static List<Long> seen(MondayDeal y, int works) {
        List<Long> all = new ArrayList<>();
        for (int what = 0; what <= 8; what++) all.add((long) y.count(what));
        for (int d = 0; d <= 6; d++) {
            for (int what = 0; what <= 2; what++) all.add((long) y.day(d, what));
            all.add((long) y.order(0, d));
            all.add((long) y.at(d));
            all.add(y.doubt(d, 0));
        }
        for (int w = 0; w < works; w++) {
            for (int what = 0; what <= 6; what++) all.add((long) y.work(w, what));
            all.add((long) y.odds(w, 0));
        }
        for (int what = 0; what <= 2; what++) all.add((long) y.fit(what));
        for (int what = 0; what <= 1; what++) all.add((long) y.sure(what));
        all.add((long) y.mean(0));
        all.add((long) y.makeReady(3, 1));
        all.add((long) y.loose(1, 0, 1));
        all.add((long) y.fault());
        for (int i = 0; i <= 8; i++) {
            all.add((long) y.undo());
            for (int what = 2; what <= 4; what++) all.add((long) y.count(what));
        }
        for (int k = 0; k <= 1; k++) {
            all.add((long) y.back(k));
            for (int what = 2; what <= 4; what++) all.add((long) y.count(what));
        }
        all.add((long) y.call());
        all.add((long) y.forget());
        all.add((long) y.calendar());
        all.add((long) y.erase());
        return all;
    }

    private static MondayDeal in(Scene s) {
        MondayDeal y = new MondayDeal();
        s.setUp.accept(y);
        return y;
    }

    // ---- the tests

    @Says(promise = 0, words = "Refused, and nothing changes: UNKNOWN (no such DAY, WORK, ORDER; one and itself), OUTSIDE (another number is not as told),"
        + " NOT (not now: as told), FULL: the first of these that fits.")
    static void itIsTheFirstRefusalThatFits() throws Exception {
        for (Scene s : scenes()) {
            for (Call call : CALLS) {
                for (int[] arguments : allArguments(s, call)) {
                    int due = due(s, call, arguments);
                    long got = ask(in(s), call, arguments);
                    if (due != 0) is(named(s, call, arguments), got, due);
                    else if (got < NONE) isWrong(named(s, call, arguments) + " answered " + got + ", due is no refusal");
                }
            }
        }
    }

    @Says(promise = 0, words = "Refused, and nothing changes:")
    static void aRefusedCallChangesNothing() throws Exception {
        for (Scene s : scenes()) {
            List<Long> before = seen(in(s), s.works);
            for (Call call : CALLS) {
                List<int[]> changeNothing = new ArrayList<>();
                for (int[] arguments : allArguments(s, call)) {
                    if (call.onlyAsks || due(s, call, arguments) != 0) changeNothing.add(arguments);
                }
                // All at once would be more calls than an object is used for.
                for (int from = 0; from < changeNothing.size(); from += 50) {
                    MondayDeal y = in(s);
                    List<int[]> some = changeNothing.subList(from, Math.min(from + 50, changeNothing.size()));
                    for (int[] arguments : some) ask(y, call, arguments);
                    if (!seen(y, s.works).equals(before)) isWrong(named(s, call, some.get(0)) + " .. changed something");
                }
            }
        }
    }

    @Says(promise = 11, words = "OUTSIDE: it is no row of seven DAYS; NOT: a RULE is against it.")
    static void whichIsRefusedAndChangesNothing() {
        for (Scene s : scenes()) {
            List<Long> before = seen(in(s), s.works);
            MondayDeal y = in(s);
            for (int digits : new int[] {LOW, -1, 0, 123455, 1234567, 6543211, 10123456, HIGH}) {
                is("promise 11, " + s.name + ": which(" + digits + ")", y.which(digits), OUTSIDE);
            }
            is("promise 11, " + s.name + ": which(0123456)", y.which(123456), s.orders == 0 ? NOT : 0);
            is("promise 11, " + s.name + ": which(6543210)", y.which(6543210), s.orders == 5040 ? 5039 : NOT);
            if (!seen(y, s.works).equals(before)) isWrong("promise 11, " + s.name + ": which() changed something");
        }
    }

    @Says(promise = 0, words = "An object is used for at most 512 calls after it has been made;")
    static void theseTestsKeepToTheCallsThatArePromised() {
        // The fullest scene: its text, 1 calendar(), 7 deal(), 2 keep(), 2 ready(), 6 bet(), 8 known(), 160 write().
        int most = TOLD.length() + 1 + 7 + 2 + 2 + 6 + 8 + 160 + 50 + seen(new MondayDeal(), 3).size();
        is("so many calls are no more than " + MOST_CALLS + ": " + most, most <= MOST_CALLS ? 1 : 0, 1);
    }
}
