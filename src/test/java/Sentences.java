import java.lang.annotation.ElementType;
import java.lang.annotation.Retention;
import java.lang.annotation.RetentionPolicy;
import java.lang.annotation.Target;
import java.lang.reflect.InvocationTargetException;
import java.lang.reflect.Method;
import java.util.ArrayList;
import java.util.Comparator;
import java.util.List;
import java.util.function.IntToLongFunction;

/** What the tests of single sentences share. Each method with Says is one test, which begins with a new object. */
abstract class Sentences {
    @Retention(RetentionPolicy.RUNTIME)
    @Target(ElementType.METHOD)
    @interface Says {
        /** 0: all of them. */
        int promise();

        /** The words of the document that the test is about, to the letter: QuotesTest looks for them there. */
        String words();
    }

    static final int NONE = -1, UNKNOWN = -2, OUTSIDE = -3, NOT = -4, FULL = -5;
    static final int LOW = Integer.MIN_VALUE, HIGH = Integer.MAX_VALUE;
    /** WORK 1 on DAY 1 is BEHIND WORK 0 on DAY 0. */
    static final String PAIR = "work 0 10 20;work 1 20 9;behind 1 0";
    static final String SIX_WORKS = "work 0 1 1;work 1 1 1;work 2 1 1;work 3 1 1;work 4 1 1;feast 5 1 1";
    /** The one ORDER is 0123456. */
    static final String ONE_ORDER = "ahead 0 1;ahead 1 2;ahead 2 3;ahead 3 4;ahead 4 5;ahead 5 6";
    static final String NO_ORDERS = "ahead 0 1;ahead 1 0";

    static MondayDeal x;
    private static String tested;
    private static int wrong;

    static List<Method> testsOf(Class<?> tests) {
        List<Method> found = new ArrayList<>();
        for (Method m : tests.getDeclaredMethods()) {
            if (m.isAnnotationPresent(Says.class)) found.add(m);
        }
        Comparator<Method> byPromise = Comparator.comparingInt(m -> m.getAnnotation(Says.class).promise());
        found.sort(byPromise.thenComparing(Method::getName));
        return found;
    }

    static void testAll(Class<?> tests) throws IllegalAccessException {
        List<Method> all = testsOf(tests);
        for (Method test : all) {
            Says says = test.getAnnotation(Says.class);
            tested = "promise " + says.promise() + ", " + test.getName() + " (\"" + says.words() + "\")";
            x = new MondayDeal();
            try {
                test.invoke(null);
            } catch (InvocationTargetException thrown) {
                isWrong("threw " + thrown.getCause());
            }
        }
        end(tests.getSimpleName(), all.size() + " sentences");
    }

    static void end(String name, String what) {
        System.out.println(name + ": " + (wrong == 0 ? "as due, " + what : wrong + " answers are not as due"));
        if (wrong != 0) System.exit(1);
    }

    static void isWrong(String what) {
        wrong++;
        System.out.println((tested == null ? "" : tested + ": ") + what);
    }

    static void is(String call, long got, long want) {
        if (got != want) isWrong(call + " answered " + got + ", due is " + want);
    }

    /** Parts in lowest terms: above (part 0), below (1). */
    static void ratio(String call, IntToLongFunction part, long above, long below) {
        is(call + " above", part.applyAsLong(0), above);
        is(call + " below", part.applyAsLong(1), below);
    }

    static void put(String text) {
        for (int i = 0; i < text.length(); i++) x.write(text.charAt(i));
    }

    static void tell(String text) {
        put(text);
        int clauses = (int) text.chars().filter(c -> c == ';').count() + 1;
        is("calendar() of [" + text + "]", x.calendar(), clauses);
    }

    /** A new object, which is told a text. */
    static void anew(String text) {
        x = new MondayDeal();
        if (!text.isEmpty()) tell(text);
    }

    /** On an object that was told the first text the second one has its FAULT there, and is refused for it. */
    static void faultBehind(String told, String text, int want) {
        anew(told);
        put(text);
        is("fault() of [" + text + "]" + (told.isEmpty() ? "" : " behind [" + told + "]"), x.fault(), want);
        if (want == NONE) {
            if (x.calendar() < 1) isWrong("calendar() refused [" + text + "]");
        } else {
            is("calendar() of [" + text + "]", x.calendar(), NOT);
            is("count(8)", x.count(8), text.length());
        }
    }

    static void faultOf(String text, int want) {
        faultBehind("", text, want);
    }

    static int dealt(int digits) {
        return x.deal(x.which(digits));
    }

    static void times(int n, Runnable what) {
        for (int i = 0; i < n; i++) what.run();
    }

    static String blanks(int n) {
        return " ".repeat(n);
    }
}
