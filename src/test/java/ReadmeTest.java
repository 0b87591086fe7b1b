import java.lang.reflect.Method;
import java.lang.reflect.Modifier;
import java.nio.file.Files;
import java.nio.file.Path;
import java.util.ArrayList;
import java.util.List;
import java.util.regex.Matcher;
import java.util.regex.Pattern;

/** README.md says how to use the class: its calls are made here, and its answers compared. */
public final class ReadmeTest {
    private static final Pattern WRITTEN = Pattern.compile("for \\(char c : \"([^\"]*)\"\\.toCharArray\\(\\)\\) x\\.write\\(c\\);");
    private static final Pattern ANSWERED = Pattern.compile("(x\\..*\\));\\s+// (-?\\d+|[A-Z]+)(:.*)?");
    private static final Pattern CALL = Pattern.compile("x\\.(\\w+)\\((.*)\\)");

    private static MondayDeal x;
    private static int wrong;

    public static void main(String[] args) throws Exception {
        String readme = Files.readString(Path.of("README.md"));
        int answers = exampleOf(readme);
        allCallsAreNamed(readme);
        if (answers < 15) fault("only " + answers + " answers in README.md");
        System.out.println(wrong == 0 ? "ReadmeTest: as due, " + answers + " answers" : "ReadmeTest: " + wrong + " faults");
        if (wrong != 0) System.exit(1);
    }

    private static void fault(String what) {
        wrong++;
        System.out.println(what);
    }

    private static int exampleOf(String readme) throws Exception {
        Matcher block = Pattern.compile("(?s)```java\n(.*?)```").matcher(readme);
        int answers = 0;
        while (block.find()) {
            for (String line : block.group(1).split("\n")) {
                if (isAnswered(line)) answers++;
            }
        }
        return answers;
    }

    private static boolean isAnswered(String line) throws Exception {
        Matcher written = WRITTEN.matcher(line);
        Matcher answered = ANSWERED.matcher(line);
        if (line.equals("MondayDeal x = new MondayDeal();")) {
            x = new MondayDeal();
        } else if (written.matches()) {
            for (char c : written.group(1).toCharArray()) x.write(c);
        } else if (answered.matches()) {
            long got = valueOf(answered.group(1));
            long want = valueOf(answered.group(2));
            if (got != want) fault("README.md: " + answered.group(1) + " answered " + got + ", not " + answered.group(2));
            return true;
        } else {
            fault("README.md: not understood: " + line);
        }
        return false;
    }

    /** Of a number, a constant's name, or a call; its arguments may be calls in their turn, of one argument each. */
    private static long valueOf(String told) throws Exception {
        Matcher call = CALL.matcher(told);
        if (call.matches()) {
            List<Integer> values = new ArrayList<>();
            for (String argument : call.group(2).split(", ")) {
                if (!argument.isEmpty()) values.add((int) valueOf(argument));
            }
            for (Method m : MondayDeal.class.getDeclaredMethods()) {
                if (m.getName().equals(call.group(1)) && Modifier.isPublic(m.getModifiers())) {
                    return ((Number) m.invoke(x, values.toArray())).longValue();
                }
            }
            throw new NoSuchMethodException(told);
        }
        return told.matches("[A-Z]+") ? MondayDeal.class.getField(told).getInt(null) : Long.parseLong(told);
    }

    private static void allCallsAreNamed(String readme) {
        for (Method m : MondayDeal.class.getDeclaredMethods()) {
            if (!Modifier.isPublic(m.getModifiers())) continue;
            // So many names as arguments, with commas between.
            String arguments = m.getParameterCount() == 0 ? "" : "\\w+" + ", \\w+".repeat(m.getParameterCount() - 1);
            if (!Pattern.compile("`" + m.getName() + "\\(" + arguments + "\\)`").matcher(readme).find()) {
                fault("README.md does not name " + m.getName());
            }
        }
    }
}
