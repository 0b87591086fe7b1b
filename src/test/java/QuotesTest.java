import java.lang.reflect.Method;
import java.nio.file.Files;
import java.nio.file.Path;
import java.util.ArrayList;
import java.util.List;
import java.util.Map;
import java.util.TreeMap;
import java.util.regex.Matcher;
import java.util.regex.Pattern;

/**
 * That the tests of single sentences leave none out: each quotes words of its promise or of the terms, and every word of
 * both is quoted by a test.
 */
public final class QuotesTest extends Sentences {
    private static final Path DOCUMENT = Path.of("../shared/DOC.md");
    private static final List<Class<?>> TESTS = List.of(
        TextBoundariesTest.class, WeekBoundariesTest.class, ForetoldBoundariesTest.class, KnownBoundariesTest.class,
        RefusalsTest.class);
    private static final int TERMS = 0;

    /** A part of the document, and which of its letters were quoted. */
    private static final class Part {
        final String text;
        final boolean[] isQuoted;

        Part(String text) {
            this.text = text.replaceAll("\\s+", " ").trim();
            isQuoted = new boolean[this.text.length()];
        }

        boolean quotes(String words) {
            int at = text.indexOf(words);
            for (int i = at; at >= 0 && i < at + words.length(); i++) isQuoted[i] = true;
            return at >= 0;
        }

        List<String> wordsLeftOut() {
            List<String> words = new ArrayList<>();
            Matcher m = Pattern.compile("[A-Za-z0-9]+").matcher(text);
            while (m.find()) if (!isQuoted[m.start()]) words.add(m.group());
            return words;
        }
    }

    public static void main(String[] args) throws Exception {
        if (!Files.exists(DOCUMENT)) {
            System.out.println("QuotesTest: there is no " + DOCUMENT + " to look into");
            return;
        }
        Map<Integer, Part> parts = partsOf(Files.readString(DOCUMENT));
        is("promises in the document", parts.size() - 1, 36);
        int quotes = 0;
        for (Class<?> tests : TESTS) {
            for (Method test : testsOf(tests)) {
                look(parts, test);
                quotes++;
            }
        }
        for (Map.Entry<Integer, Part> part : parts.entrySet()) {
            List<String> leftOut = part.getValue().wordsLeftOut();
            String name = part.getKey() == TERMS ? "the terms" : "promise " + part.getKey();
            if (!leftOut.isEmpty()) isWrong(name + ": no test quotes " + leftOut);
        }
        end("QuotesTest", quotes + " quotes");
    }

    private static void look(Map<Integer, Part> parts, Method test) {
        Says says = test.getAnnotation(Says.class);
        Part own = parts.get(says.promise());
        boolean isFound = own != null && own.quotes(says.words());
        isFound |= parts.get(TERMS).quotes(says.words());
        if (!isFound) isWrong(test + " quotes what neither promise " + says.promise() + " nor the terms say: " + says.words());
    }

    /** The words of each promise behind its call, and as part 0 the terms with what is said of 512 calls. */
    private static Map<Integer, Part> partsOf(String document) {
        Map<Integer, Part> parts = new TreeMap<>();
        String calls = document.replaceAll("(?s).*?(An object is used for[^\n]*).*", "$1");
        String terms = document.replaceAll("(?s).*## Terms(.*?)## Promise 1:.*", "$1");
        terms = terms.replaceAll("(?m)^Ahead of the calls.*$", "").replaceAll("```(text)?", "").replaceAll("======== \\d ", "");
        parts.put(TERMS, new Part(calls + " " + terms));
        Matcher m = Pattern.compile("(?s)## Promise (\\d+):[^\n]*\n+`[^`]*`: (.*?)(?=\n## )").matcher(document);
        while (m.find()) parts.put(Integer.parseInt(m.group(1)), new Part(m.group(2)));
        return parts;
    }
}
