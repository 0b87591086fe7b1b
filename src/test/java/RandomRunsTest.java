import java.lang.reflect.InvocationTargetException;
import java.lang.reflect.Method;
import java.util.ArrayList;
import java.util.Comparator;
import java.util.List;
import java.util.Map;
import java.util.Random;
import java.util.TreeMap;

/** Runs of random calls, each of which the class must answer as the plain model does. The seeds are fixed. */
public final class RandomRunsTest {
    private static final String[] WORDS = {
        "calendar", "plain", "double", "short", "fast", "work", "feast", "behind", "first", "beside", "ahead", "free", "idle"
    };
    /** Calls whose model goes through all orders for many sets: asked seldom. */
    private static final List<String> DEAR = List.of("makeReady", "loose", "sure");

    private final Random random;
    private final MondayDeal deal = new MondayDeal();
    private final PlainModel model = new PlainModel();
    private final List<String> log = new ArrayList<>();
    private static final Map<String, Integer> CALLS = new TreeMap<>();
    private int calls;

    private RandomRunsTest(long seed) {
        random = new Random(seed);
    }

    public static void main(String[] args) throws Exception {
        int runs = args.length > 0 ? Integer.parseInt(args[0]) : 60;
        long from = args.length > 1 ? Long.parseLong(args[1]) : 1;
        List<Method> methods = new ArrayList<>(List.of(MondayDeal.class.getDeclaredMethods()));
        methods.removeIf(m -> !java.lang.reflect.Modifier.isPublic(m.getModifiers()));
        methods.sort(Comparator.comparing(Method::getName));
        for (long seed = from; seed < from + runs; seed++) {
            RandomRunsTest run = new RandomRunsTest(seed);
            String wrong = run.go(methods);
            if (wrong != null) {
                run.log.forEach(System.out::println);
                System.out.println("seed " + seed + ": " + wrong);
                System.exit(1);
            }
        }
        System.out.println("RandomRunsTest: as due in " + runs + " runs, " + CALLS);
    }

    private String go(List<Method> methods) throws Exception {
        while (calls < 500) {
            String wrong = switch (random.nextInt(120)) {
                case 0, 1, 2, 3, 4, 5 -> tell(randomText());
                case 6, 7, 8 -> tell(manyRules());
                case 9, 10 -> knowMuch();
                case 11, 12 -> betMuch();
                case 13, 14 -> call("loose", arguments("loose"));
                default -> ask(methods.get(random.nextInt(methods.size())));
            };
            if (wrong != null) {
                return wrong;
            }
        }
        return null;
    }

    /** Writes a text, mostly a good one, and has it done. */
    private String tell(String text) throws Exception {
        if (calls > 340) {
            return null;
        }
        String wrong = call("erase");
        for (int i = 0; wrong == null && i < text.length(); i++) {
            wrong = call("write", text.charAt(i));
        }
        if (wrong == null) wrong = call("fault");
        if (wrong == null) wrong = call("calendar");
        return wrong;
    }

    private String randomText() {
        int clauses = 1 + random.nextInt(random.nextInt(8) == 0 ? 16 : 9);
        boolean mayGoWrong = random.nextInt(4) == 0;
        StringBuilder text = new StringBuilder(random.nextInt(5) == 0 ? "free;" : "");
        int works = model.count(0);
        int rules = model.count(1);
        for (int c = 0; c < clauses; c++) {
            String word = WORDS[random.nextInt(WORDS.length)];
            if (random.nextInt(3) == 0) word = random.nextBoolean() ? "work" : "behind";
            if (!mayGoWrong && word.equals("behind") && works < 2) word = "work";
            if (!mayGoWrong && (word.equals("work") || word.equals("feast")) && works == 6) word = works == 6 && random.nextInt(3) == 0 ? "idle" : "behind";
            if (!mayGoWrong && List.of("first", "beside", "ahead").contains(word) && rules == 6) word = "free";
            if (!mayGoWrong && word.equals("calendar") && random.nextInt(4) != 0) word = "fast";
            if (c > 0) text.append(';');
            text.append(word);
            switch (word) {
                case "work": case "feast":
                    works++;
                    add(text, random.nextInt(7));
                    add(text, random.nextInt(100));
                    add(text, random.nextInt(random.nextBoolean() ? 8 : 21));
                    break;
                case "behind": {
                    int i = random.nextInt(Math.max(1, works));
                    add(text, i);
                    add(text, works < 2 || mayGoWrong ? random.nextInt(6) : (i + 1 + random.nextInt(works - 1)) % works);
                    break;
                }
                case "beside": case "ahead": {
                    rules++;
                    int d = random.nextInt(7);
                    add(text, d);
                    add(text, (d + (mayGoWrong ? random.nextInt(8) : 1 + random.nextInt(6))) % 7);
                    break;
                }
                case "first":
                    rules++;
                    add(text, random.nextInt(7));
                    break;
                case "plain": case "double": case "short": case "fast":
                    add(text, random.nextInt(7));
                    break;
                case "free": rules = 0; break;
                case "idle": works = 0; break;
                default: works = 0; rules = 0;
            }
        }
        if (mayGoWrong && random.nextBoolean()) {
            int at = random.nextInt(text.length());
            String signs = " ;;0179azAZ\t\u0000\u00e9-.{`/:";
            if (random.nextBoolean()) {
                text.setCharAt(at, signs.charAt(random.nextInt(signs.length())));
            } else {
                text.insert(at, signs.charAt(random.nextInt(signs.length())));
            }
        }
        return text.toString();
    }

    /** Few orders, or none, as texts of all clauses hardly ever leave. */
    private String manyRules() {
        StringBuilder text = new StringBuilder("free");
        for (int rules = 3 + random.nextInt(4); rules > 0; rules--) {
            int d = random.nextInt(7);
            int e = (d + 1 + random.nextInt(6)) % 7;
            text.append(switch (random.nextInt(6)) {
                case 0 -> ";first " + d;
                case 1 -> ";beside " + d + " " + e;
                default -> ";ahead " + d + " " + e;
            });
        }
        return text.toString();
    }

    private void add(StringBuilder text, int number) {
        text.append(random.nextInt(9) == 0 ? "  " : random.nextInt(9) == 0 && Character.isLetter(text.charAt(text.length() - 1)) ? "" : " ");
        if (number < 10 && random.nextInt(9) == 0) text.append('0');
        text.append(number);
    }

    private String ask(Method method) throws Exception {
        String name = method.getName();
        if (name.equals("erase") || name.equals("calendar") || DEAR.contains(name) && random.nextInt(4) != 0) {
            return null;
        }
        if (random.nextInt(6) == 0) {
            name = random.nextInt(3) == 0 ? "ready" : "deal";
        }
        return call(name, arguments(name));
    }

    private int[] arguments(String name) {
        return switch (name) {
            case "write" -> new int[] {random.nextInt(300) - 20};
            case "day", "doubt" -> new int[] {about(7), about(3)};
            case "work" -> new int[] {about(6), about(7)};
            case "as" -> new int[] {about(7), about(5)};
            case "order" -> new int[] {about(model.orders()), about(7)};
            case "which" -> new int[] {digits()};
            case "deal" -> new int[] {about(model.orders())};
            case "ready" -> new int[] {about(6)};
            case "keep", "back", "mean", "best", "worst", "sure" -> new int[] {about(2)};
            case "odds" -> new int[] {about(6), about(2)};
            case "makeReady" -> new int[] {1 + about(3), about(2)};
            case "fair" -> new int[] {about(7), 1 + about(7), about(2)};
            case "beside", "across", "known", "loose" -> new int[] {about(7), about(7), about(2)};
            case "waits", "at" -> new int[] {about(7)};
            case "bet" -> new int[] {about(7), 1 + about(6), random.nextBoolean() ? about(100) : random.nextInt(40)};
            case "fit" -> new int[] {about(3)};
            case "count" -> new int[] {about(9)};
            default -> new int[0];
        };
    }

    /** 0 .. n - 1 as a rule, one beside it or far off now and then. */
    private int about(int n) {
        switch (random.nextInt(25)) {
            case 0: return -1;
            case 1: return n;
            case 2: return random.nextInt(4) == 0 ? (random.nextBoolean() ? Integer.MAX_VALUE : Integer.MIN_VALUE) : 0;
            default: return n <= 0 ? 0 : random.nextInt(n);
        }
    }

    /** Much that is so in one row: what is drawn one by one is forgotten before it settles the day at any place. */
    private String knowMuch() throws Exception {
        if (calls > 470) {
            return null;
        }
        String row = String.format("%07d", digitsOfDays());
        String wrong = call("forget");
        for (int i = 0; wrong == null && i < 9; i++) {
            int first = random.nextInt(6);
            int second = random.nextInt(4) == 0 ? first + 1 + random.nextInt(6 - first) : first + 1;
            int earlier = row.charAt(first) - '0';
            int later = row.charAt(second) - '0';
            wrong = random.nextBoolean() ? call("known", earlier, later, 1) : call("known", later, earlier, 0);
            if (wrong == null) wrong = call("fit", about(3));
            if (wrong == null) wrong = call("at", about(7));
        }
        return wrong;
    }

    /** Cheap bets on few days, among which there are sure ones. */
    private String betMuch() throws Exception {
        if (calls > 470) {
            return null;
        }
        int day = random.nextInt(7);
        int bets = 2 + random.nextInt(6);
        String wrong = call("call");
        for (int i = 0; wrong == null && i < bets; i++) {
            wrong = call("bet", random.nextInt(3) == 0 ? random.nextInt(7) : (day + random.nextInt(2)) % 7, 1 + about(6), random.nextInt(60));
        }
        if (wrong == null) wrong = call("sure", 0);
        if (wrong == null) wrong = call("sure", 1);
        return wrong;
    }

    private int digits() {
        if (random.nextInt(6) == 0) return random.nextInt(8) == 0 ? random.nextInt() : random.nextInt(7000000);
        return digitsOfDays();
    }

    private int digitsOfDays() {
        List<Integer> days = new ArrayList<>(List.of(0, 1, 2, 3, 4, 5, 6));
        java.util.Collections.shuffle(days, random);
        int n = 0;
        for (int d : days) n = n * 10 + d;
        return n;
    }

    private String call(String name, int... arguments) throws Exception {
        calls++;
        CALLS.merge(name, 1, Integer::sum);
        long got = on(deal, name, arguments);
        long want = on(model, name, arguments);
        String told = name + java.util.Arrays.toString(arguments);
        log.add(told + " " + got);
        return got == want ? null : told + " answered " + got + ", due is " + want;
    }

    private static long on(Object object, String name, int... arguments) throws Exception {
        Class<?>[] types = new Class<?>[arguments.length];
        Object[] values = new Object[arguments.length];
        for (int i = 0; i < types.length; i++) {
            types[i] = int.class;
            values[i] = arguments[i];
        }
        Method method = object.getClass().getDeclaredMethod(name, types);
        method.setAccessible(true);
        try {
            return ((Number) method.invoke(object, values)).longValue();
        } catch (InvocationTargetException thrown) {
            throw new IllegalStateException(name + java.util.Arrays.toString(arguments) + " threw", thrown.getCause());
        }
    }
}
