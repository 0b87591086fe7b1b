import java.lang.management.ManagementFactory;
import java.lang.reflect.Constructor;
import java.lang.reflect.Field;
import java.lang.reflect.Method;
import java.lang.reflect.Modifier;
import java.nio.file.Files;
import java.nio.file.Path;
import java.util.Arrays;
import java.util.List;
import java.util.Set;
import java.util.TreeSet;
import java.util.regex.Matcher;
import java.util.regex.Pattern;
import java.util.stream.Collectors;

/** The face of the document, and what of LANGUAGE.md can be seen from outside or from the text of the source. */
public final class LanguageTest {
    private static final List<String> FACE = List.of(
        "int write(int)", "int erase()", "int fault()", "int calendar()", "int day(int,int)", "int work(int,int)",
        "int as(int,int)", "int orders()", "int order(int,int)", "int which(int)", "int deal(int)", "int ready(int)",
        "int undo()", "int keep(int)", "int back(int)", "int odds(int,int)", "int mean(int)", "int safe()",
        "int best(int)", "int worst(int)", "int makeReady(int,int)", "int fair(int,int,int)", "int beside(int,int,int)",
        "int across(int,int,int)", "int waits(int)", "int bet(int,int,int)", "int call()", "int sure(int)",
        "int known(int,int,int)", "int forget()", "int fit(int)", "int at(int)", "long doubt(int,int)",
        "int loose(int,int,int)", "int count(int)");
    private static final Pattern FORBIDDEN = Pattern.compile(
        "\\b(throw|throws|try|catch|finally|synchronized|assert|volatile|native|Exact|var|Object|Class|Thread|Random)\\b|->|::");

    private static int wrong;

    public static void main(String[] args) throws Exception {
        face();
        nestedClasses();
        source();
        room();
        System.out.println(wrong == 0 ? "LanguageTest: as due" : "LanguageTest: " + wrong + " faults");
        if (wrong != 0) System.exit(1);
    }

    private static void check(boolean holds, String what) {
        if (!holds) {
            wrong++;
            System.out.println("language: " + what);
        }
    }

    private static String signature(Method m) {
        String types = Arrays.stream(m.getParameterTypes()).map(Class::getSimpleName).collect(Collectors.joining(","));
        return m.getReturnType().getSimpleName() + " " + m.getName() + "(" + types + ")";
    }

    private static void face() throws Exception {
        Class<?> c = MondayDeal.class;
        check(Modifier.isPublic(c.getModifiers()) && Modifier.isFinal(c.getModifiers()), "the class is public and final");
        Set<String> found = new TreeSet<>();
        for (Method m : c.getDeclaredMethods()) {
            if (!Modifier.isPrivate(m.getModifiers())) {
                check(Modifier.isPublic(m.getModifiers()) && !Modifier.isStatic(m.getModifiers()), "visible: " + m);
                found.add(signature(m));
            }
        }
        check(found.equals(new TreeSet<>(FACE)), "methods are " + found);
        Set<String> constants = new TreeSet<>();
        for (Field f : c.getDeclaredFields()) {
            if (!Modifier.isPrivate(f.getModifiers())) constants.add(f.getName() + f.getInt(null));
        }
        check(constants.equals(new TreeSet<>(List.of("NONE-1", "UNKNOWN-2", "OUTSIDE-3", "NOT-4", "FULL-5"))), "constants are " + constants);
        Constructor<?>[] constructors = c.getDeclaredConstructors();
        check(constructors.length == 1 && constructors[0].getParameterCount() == 0, "one constructor, without arguments");
    }

    private static void nestedClasses() {
        Class<?>[] nested = MondayDeal.class.getDeclaredClasses();
        check(nested.length <= 11, "some twelve classes at most");
        Set<String> publicNames = FACE.stream().map(s -> s.replaceAll(".* |\\(.*", "")).collect(Collectors.toSet());
        List<Class<?>> all = new java.util.ArrayList<>(List.of(nested));
        all.add(MondayDeal.class);
        for (Class<?> c : all) {
            boolean outer = c == MondayDeal.class;
            check(outer || Modifier.isStatic(c.getModifiers()), c + " is not static");
            check(outer || !Modifier.isPublic(c.getModifiers()), c + " is public");
            long fields = Arrays.stream(c.getDeclaredFields()).filter(f -> !Modifier.isStatic(f.getModifiers())).count();
            check(fields <= 20, c + " has " + fields + " fields");
            for (Field f : c.getDeclaredFields()) {
                check(!Modifier.isStatic(f.getModifiers()) || Modifier.isFinal(f.getModifiers()), f + " is not final");
            }
            for (Method m : c.getDeclaredMethods()) {
                check(m.getParameterCount() <= 7, m + " has too many parameters");
                check(outer && Modifier.isPublic(m.getModifiers()) || !publicNames.contains(m.getName()), m + " bears a public name");
            }
        }
    }

    private static void source() throws Exception {
        Path path = Path.of("src/main/java/MondayDeal.java");
        String text = Files.readString(path);
        check(text.chars().allMatch(c -> c < 128), "signs over 127");
        String code = text.replaceAll("(?s)/\\*.*?\\*/", "").replaceAll("//.*", "").replaceAll("\"[^\"]*\"", "\"\"");
        Matcher m = FORBIDDEN.matcher(code);
        while (m.find()) check(false, "forbidden: " + m.group());
        for (String line : code.split("\n")) {
            check(!line.startsWith("import") || line.equals("import java.util.Arrays;"), line);
            check(!line.startsWith("package"), line);
        }
        check(!code.contains("for (;;)") && !code.contains("while (true)"), "a loop without an end");
        int start = 0;
        String[] lines = text.split("\n");
        for (int i = 0; i < lines.length; i++) {
            if (lines[i].matches(" {4,8}[a-z].*\\) \\{")) start = i;
            check(!lines[i].matches(" {4}}| {8}}") || i - start < 60 || lines[start].contains("class"), "a method too long, at line " + start);
        }
    }

    /** All calls of a run live in one room: after it has been made an object makes nothing more. */
    private static void room() {
        var threads = (com.sun.management.ThreadMXBean) ManagementFactory.getThreadMXBean();
        allCalls(new MondayDeal());
        MondayDeal[] kept = new MondayDeal[1];
        long before = threads.getCurrentThreadAllocatedBytes();
        kept[0] = new MondayDeal();
        long made = threads.getCurrentThreadAllocatedBytes() - before;
        check(made < 40_000, "a new object takes " + made + " bytes");
        before = threads.getCurrentThreadAllocatedBytes();
        allCalls(kept[0]);
        long more = threads.getCurrentThreadAllocatedBytes() - before;
        check(more < 200, "calls made " + more + " bytes");
    }

    private static void put(MondayDeal x, String text) {
        for (int i = 0; i < text.length(); i++) x.write(text.charAt(i));
    }

    private static void allCalls(MondayDeal x) {
        put(x, "work 0 9 9;feast 1 5 20;work 2 7 3;behind 1 0;behind 2 1;behind 0 2;double 3;fast 4;first 0;beside 2 3;ahead 5 6");
        x.fault();
        x.calendar();
        x.erase();
        for (int i = 0; i < 3; i++) {
            x.day(i, 2);
            x.work(i, 5);
            x.as(i, 0);
            x.orders();
            x.order(i, 3);
            x.which(1023456);
            x.ready(i);
            x.deal(i * 7);
            x.keep(0);
            x.back(0);
            x.deal(i);
            x.undo();
            x.odds(i, 0);
            x.mean(1);
            x.safe();
            x.best(1);
            x.worst(1);
            x.makeReady(3, 1);
            x.fair(i, 2, 0);
            x.beside(i, 6, 1);
            x.across(i, 2, 1);
            x.waits(i);
            x.bet(i, 5, 3);
            x.sure(1);
            x.call();
            x.known(i, 5, 1);
            x.fit(0);
            x.at(2);
            x.forget();
            x.doubt(i, 1);
            x.loose(i, 5, 1);
            x.count(4);
        }
    }
}
