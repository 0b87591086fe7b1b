import java.math.BigInteger;
import java.util.ArrayDeque;
import java.util.ArrayList;
import java.util.Arrays;
import java.util.Deque;
import java.util.List;
import java.util.regex.Matcher;
import java.util.regex.Pattern;

/** The document said once more, as slowly and plainly as can be: nothing is kept that can be found anew. */
final class PlainModel {
    static final int NONE = -1, UNKNOWN = -2, OUTSIDE = -3, NOT = -4, FULL = -5;

    record Rule(String form, int day, int other) {
        boolean holds(List<Integer> row) {
            int one = row.indexOf(day);
            int two = row.indexOf(other);
            return switch (form) {
                case "first" -> one != 0;
                case "beside" -> Math.abs(one - two) != 1;
                default -> one < two;
            };
        }
    }

    static final class Work {
        int day, worth, keeps, behind = NONE;
        boolean feast;
    }

    /** What is told. */
    static final class Book {
        String[] kinds = new String[7];
        List<Work> works = new ArrayList<>();
        List<Rule> rules = new ArrayList<>();

        Book() {
            Arrays.fill(kinds, "plain");
        }
    }

    /** What deal() and ready() change. */
    static final class Stand {
        int[] age = {NONE, NONE, NONE, NONE, NONE, NONE};
        int[] done = new int[6];
        int earned;
        List<List<Integer>> weeks = new ArrayList<>();

        Stand copy() {
            Stand s = new Stand();
            s.age = age.clone();
            s.done = done.clone();
            s.earned = earned;
            s.weeks = new ArrayList<>(weeks);
            return s;
        }
    }

    record Bet(int day, int k, int price) { }

    record Fact(int day, int other, int is) {
        boolean fits(List<Integer> row) {
            return (row.indexOf(day) < row.indexOf(other)) == (is == 1);
        }
    }

    private static final List<List<Integer>> ALL_ROWS = allRows();

    private Book book = new Book();
    private Stand stand = new Stand();
    private List<List<Integer>> orders = ALL_ROWS;
    private final StringBuilder text = new StringBuilder();
    private Deque<Stand> past = new ArrayDeque<>();
    private Stand[] kept = new Stand[2];
    private List<Bet> bets = new ArrayList<>();
    private List<Fact> facts = new ArrayList<>();

    private static List<List<Integer>> allRows() {
        List<List<Integer>> rows = new ArrayList<>();
        for (int n = 123456; n <= 6543210; n++) {
            String digits = String.format("%07d", n);
            if (digits.chars().distinct().count() == 7 && digits.chars().allMatch(c -> c <= '6')) {
                rows.add(digits.chars().mapToObj(c -> c - '0').toList());
            }
        }
        return rows;
    }

    // ---- the text

    private static final Pattern TOKEN = Pattern.compile("[a-z]+|[0-9]+|[^ ]", Pattern.DOTALL);

    private List<String> tokens;
    private List<Integer> places;
    private int next;

    /** The place of the first fault; the clauses ahead of it are done on the book. */
    private int readInto(Book b, int[] clauses) {
        tokens = new ArrayList<>();
        places = new ArrayList<>();
        Matcher m = TOKEN.matcher(text);
        while (m.find()) {
            tokens.add(m.group());
            places.add(m.start());
        }
        next = 0;
        while (true) {
            if (!clause(b)) {
                return next < tokens.size() ? places.get(next) : text.length();
            }
            clauses[0]++;
            if (next == tokens.size()) {
                return NONE;
            }
            if (!tokens.get(next).equals(";") || clauses[0] == 14) {
                return places.get(next);
            }
            next++;
        }
    }

    private int number(int most) {
        if (next == tokens.size() || !tokens.get(next).matches("[0-9]{1,2}") || Integer.parseInt(tokens.get(next)) > most) {
            return NONE;
        }
        return Integer.parseInt(tokens.get(next++));
    }

    /** Stops at the token that cannot stand there. */
    private boolean clause(Book b) {
        if (next == tokens.size()) {
            return false;
        }
        String word = tokens.get(next);
        switch (word) {
            case "calendar":
                b.kinds = new Book().kinds;
                b.works = new ArrayList<>();
                b.rules = new ArrayList<>();
                next++;
                return true;
            case "free":
                b.rules = new ArrayList<>();
                next++;
                return true;
            case "idle":
                b.works = new ArrayList<>();
                next++;
                return true;
            case "plain": case "double": case "short": case "fast": {
                next++;
                int d = number(6);
                if (d == NONE) return false;
                b.kinds[d] = word;
                return true;
            }
            case "work": case "feast": {
                if (b.works.size() == 6) return false;
                next++;
                Work w = new Work();
                w.feast = word.equals("feast");
                if ((w.day = number(6)) == NONE || (w.worth = number(99)) == NONE || (w.keeps = number(20)) == NONE) {
                    return false;
                }
                b.works.add(w);
                return true;
            }
            case "behind": {
                next++;
                int i = number(b.works.size() - 1);
                if (i == NONE) return false;
                int j = number(b.works.size() - 1);
                if (j == i) next--;
                if (j == NONE || j == i) return false;
                b.works.get(i).behind = j;
                return true;
            }
            case "first": case "beside": case "ahead": {
                if (b.rules.size() == 6) return false;
                next++;
                int d = number(6);
                if (d == NONE) return false;
                int e = NONE;
                if (!word.equals("first")) {
                    e = number(6);
                    if (e == d) next--;
                    if (e == NONE || e == d) return false;
                }
                b.rules.add(new Rule(word, d, e));
                return true;
            }
            default:
                return false;
        }
    }

    private Book copyOfBook() {
        Book b = new Book();
        b.kinds = book.kinds.clone();
        for (Work w : book.works) {
            Work v = new Work();
            v.day = w.day;
            v.worth = w.worth;
            v.keeps = w.keeps;
            v.behind = w.behind;
            v.feast = w.feast;
            b.works.add(v);
        }
        b.rules = new ArrayList<>(book.rules);
        return b;
    }

    int write(int letter) {
        if (letter < 0 || letter > 255) return OUTSIDE;
        if (text.length() == 160) return FULL;
        text.append((char) letter);
        return text.length();
    }

    int erase() {
        int had = text.length();
        text.setLength(0);
        return had;
    }

    int fault() {
        return readInto(copyOfBook(), new int[1]);
    }

    int calendar() {
        Book b = copyOfBook();
        int[] clauses = new int[1];
        if (readInto(b, clauses) != NONE) return NOT;
        book = b;
        text.setLength(0);
        stand = new Stand();
        past = new ArrayDeque<>();
        kept = new Stand[2];
        bets = new ArrayList<>();
        facts = new ArrayList<>();
        orders = ALL_ROWS.stream().filter(row -> book.rules.stream().allMatch(r -> r.holds(row))).toList();
        return clauses[0];
    }

    // ---- days, works

    private static boolean noDay(int d) {
        return d < 0 || d > 6;
    }

    private boolean noWork(int w) {
        return w < 0 || w >= book.works.size();
    }

    private boolean noOrder(int o) {
        return o < 0 || o >= orders.size();
    }

    int day(int d, int what) {
        if (noDay(d)) return UNKNOWN;
        if (what == 0) return List.of("plain", "double", "short", "fast").indexOf(book.kinds[d]);
        if (what == 1) {
            int bits = 0;
            for (int w = 0; w < book.works.size(); w++) if (book.works.get(w).day == d) bits += 1 << w;
            return bits;
        }
        if (what == 2) return (int) orders.stream().filter(o -> o.get(0) == d).count();
        return OUTSIDE;
    }

    int work(int w, int what) {
        if (noWork(w)) return UNKNOWN;
        Work it = book.works.get(w);
        return switch (what) {
            case 0 -> it.day;
            case 1 -> it.worth;
            case 2 -> it.keeps;
            case 3 -> it.feast ? 1 : 0;
            case 4 -> it.behind;
            case 5 -> stand.age[w];
            case 6 -> stand.done[w];
            default -> OUTSIDE;
        };
    }

    private int earns(int d, int worth) {
        return book.kinds[d].equals("double") ? 2 * worth : book.kinds[d].equals("short") ? worth / 2 : worth;
    }

    int as(int d, int kind) {
        if (noDay(d)) return UNKNOWN;
        if (kind < 0 || kind > 4) return OUTSIDE;
        List<Integer> over = switch (book.kinds[d]) {
            case "plain" -> List.of(0, 1);
            case "double" -> List.of(0, 1, 2);
            case "short" -> List.of(0, 1, 3);
            default -> List.of(0, 4);
        };
        return over.contains(kind) ? earns(d, 15) : NOT;
    }

    // ---- orders, weeks

    int orders() {
        return orders.size();
    }

    int order(int o, int k) {
        if (noOrder(o)) return UNKNOWN;
        return k < 0 || k > 6 ? OUTSIDE : orders.get(o).get(k);
    }

    int which(int digits) {
        if (digits < 0 || digits > 6543210) return OUTSIDE;
        List<Integer> row = String.format("%07d", digits).chars().mapToObj(c -> c - '0').toList();
        if (!ALL_ROWS.contains(row)) return OUTSIDE;
        int at = orders.indexOf(row);
        return at < 0 ? NOT : at;
    }

    /** Plays a week on a stand: what is earned. */
    private int play(Stand s, List<Integer> row) {
        int earned = 0;
        for (int d : row) {
            for (int w = 0; w < book.works.size(); w++) {
                if (s.age[w] != NONE) {
                    s.age[w]++;
                    if (s.age[w] > book.works.get(w).keeps) s.age[w] = NONE;
                }
            }
            for (int w = 0; w < book.works.size(); w++) {
                Work it = book.works.get(w);
                if (it.day != d || it.feast && book.kinds[d].equals("fast")) continue;
                if (it.behind != NONE) {
                    if (s.age[it.behind] == NONE) continue;
                    s.age[it.behind] = NONE;
                }
                earned += earns(d, it.worth);
                s.age[w] = 0;
                s.done[w]++;
            }
        }
        s.earned += earned;
        s.weeks.add(row);
        return earned;
    }

    private void remember() {
        past.push(stand.copy());
        if (past.size() > 8) past.removeLast();
    }

    int deal(int o) {
        if (noOrder(o)) return UNKNOWN;
        if (stand.weeks.size() >= 999) return FULL;
        remember();
        return play(stand, orders.get(o));
    }

    private static int there(Stand s) {
        int bits = 0;
        for (int w = 0; w < 6; w++) if (s.age[w] != NONE) bits += 1 << w;
        return bits;
    }

    int ready(int w) {
        if (noWork(w)) return UNKNOWN;
        if (stand.age[w] != NONE) return NOT;
        remember();
        stand.age[w] = 0;
        return Integer.bitCount(there(stand));
    }

    int undo() {
        if (past.isEmpty()) return NOT;
        stand = past.pop();
        return past.size();
    }

    int keep(int k) {
        if (k != 0 && k != 1) return UNKNOWN;
        kept[k] = stand.copy();
        return stand.weeks.size();
    }

    int back(int k) {
        if (k != 0 && k != 1) return UNKNOWN;
        if (kept[k] == null) return NOT;
        stand = kept[k].copy();
        past.clear();
        return stand.weeks.size();
    }

    // ---- foretold

    private static long terms(long above, long below, int part) {
        BigInteger a = BigInteger.valueOf(above);
        BigInteger b = BigInteger.valueOf(below);
        BigInteger g = a.gcd(b);
        return (part == 0 ? a : b).divide(g).longValueExact();
    }

    private int refusal(int part) {
        return part != 0 && part != 1 ? OUTSIDE : orders.isEmpty() ? NOT : 0;
    }

    /** How each order would go from what is there and a set that is made ready. */
    private List<Stand> outlook(int set) {
        List<Stand> all = new ArrayList<>();
        for (List<Integer> row : orders) {
            Stand s = new Stand();
            s.age = stand.age.clone();
            for (int w = 0; w < 6; w++) if ((set >> w & 1) == 1) s.age[w] = 0;
            play(s, row);
            all.add(s);
        }
        return all;
    }

    int odds(int w, int part) {
        if (noWork(w)) return UNKNOWN;
        if (refusal(part) != 0) return refusal(part);
        return (int) terms(outlook(0).stream().filter(s -> s.done[w] > 0).count(), orders.size(), part);
    }

    private int total(int set) {
        return outlook(set).stream().mapToInt(s -> s.earned).sum();
    }

    int mean(int part) {
        if (refusal(part) != 0) return refusal(part);
        return (int) terms(total(0), orders.size(), part);
    }

    int safe() {
        if (orders.isEmpty()) return NOT;
        List<Stand> all = outlook(0);
        int bits = 0;
        for (int w = 0; w < book.works.size(); w++) {
            int v = w;
            if (all.stream().allMatch(s -> s.done[v] > 0)) bits += 1 << w;
        }
        return bits;
    }

    int best(int what) {
        if (refusal(what) != 0) return refusal(what);
        List<Integer> all = outlook(0).stream().map(s -> s.earned).toList();
        int most = all.stream().max(Integer::compare).get();
        return what == 0 ? most : all.indexOf(most);
    }

    int worst(int what) {
        if (refusal(what) != 0) return refusal(what);
        List<Integer> all = outlook(0).stream().map(s -> s.earned).toList();
        int least = all.stream().min(Integer::compare).get();
        return what == 0 ? least : all.indexOf(least);
    }

    int makeReady(int k, int what) {
        if (k < 1 || k > 3 || what != 0 && what != 1) return OUTSIDE;
        int best = 0;
        int most = total(0);
        for (int set = 1; set < 1 << book.works.size(); set++) {
            if (Integer.bitCount(set) > k || (set & there(stand)) != 0) continue;
            int sum = total(set);
            if (sum > most) {
                most = sum;
                best = set;
            }
        }
        return what == 0 ? most : best;
    }

    int fair(int d, int k, int part) {
        if (noDay(d)) return UNKNOWN;
        if (k < 1 || k > 7) return OUTSIDE;
        if (refusal(part) != 0) return refusal(part);
        return (int) terms(orders.stream().filter(o -> o.indexOf(d) < k).count(), orders.size(), part);
    }

    int beside(int d, int e, int part) {
        if (noDay(d) || noDay(e) || d == e) return UNKNOWN;
        if (refusal(part) != 0) return refusal(part);
        long n = orders.stream().filter(o -> Math.abs(o.indexOf(d) - o.indexOf(e)) == 1).count();
        return (int) terms(n, orders.size(), part);
    }

    int across(int d, int e, int part) {
        if (noDay(d) || noDay(e)) return UNKNOWN;
        if (refusal(part) != 0) return refusal(part);
        long last = orders.stream().filter(o -> o.get(6) == d).count();
        long first = orders.stream().filter(o -> o.get(0) == e).count();
        return (int) terms(last * first, (long) orders.size() * orders.size(), part);
    }

    int waits(int d) {
        if (noDay(d)) return UNKNOWN;
        if (orders.isEmpty()) return NOT;
        int longest = 0;
        int[] places = orders.stream().mapToInt(o -> o.indexOf(d)).distinct().toArray();
        for (int here : places) for (int there : places) longest = Math.max(longest, 7 + there - here);
        return longest;
    }

    // ---- bets

    int bet(int d, int k, int price) {
        if (noDay(d)) return UNKNOWN;
        if (k < 1 || k > 6 || price < 0 || price > 99) return OUTSIDE;
        if (bets.size() == 6) return FULL;
        bets.add(new Bet(d, k, price));
        return bets.size();
    }

    int call() {
        int had = bets.size();
        bets.clear();
        return had;
    }

    int sure(int what) {
        if (refusal(what) != 0) return refusal(what);
        int best = 0;
        int most = 0;
        for (int set = 1; set < 1 << bets.size(); set++) {
            int worst = Integer.MAX_VALUE;
            for (List<Integer> o : orders) {
                int won = 0;
                for (int b = 0; b < bets.size(); b++) {
                    if ((set >> b & 1) == 0) continue;
                    Bet it = bets.get(b);
                    won += (o.indexOf(it.day) < it.k ? 100 : 0) - it.price;
                }
                worst = Math.min(worst, won);
            }
            if (worst > most) {
                most = worst;
                best = set;
            }
        }
        return what == 0 ? most : best;
    }

    // ---- what is known

    int known(int d, int e, int is) {
        if (noDay(d) || noDay(e) || d == e) return UNKNOWN;
        if (is != 0 && is != 1) return OUTSIDE;
        if (facts.size() == 8) return FULL;
        facts.add(new Fact(d, e, is));
        return facts.size();
    }

    int forget() {
        int had = facts.size();
        facts.clear();
        return had;
    }

    private boolean fits(List<Integer> row) {
        return facts.stream().allMatch(f -> f.fits(row));
    }

    private List<List<Integer>> lastWeeks() {
        int n = stand.weeks.size();
        return stand.weeks.subList(Math.max(0, n - 4), n);
    }

    int fit(int what) {
        List<List<Integer>> fitting = orders.stream().filter(this::fits).toList();
        if (what == 0) return fitting.size();
        if (what == 1) return fitting.isEmpty() ? NONE : orders.indexOf(fitting.get(0));
        if (what != 2) return OUTSIDE;
        int bits = 0;
        for (List<Integer> week : lastWeeks()) bits = bits * 2 + (fits(week) ? 1 : 0);
        return bits;
    }

    int at(int k) {
        if (k < 0 || k > 6) return OUTSIDE;
        List<Integer> days = orders.stream().filter(this::fits).map(o -> o.get(k)).distinct().toList();
        return days.size() == 1 ? days.get(0) : NONE;
    }

    /** Goes through all rows of weeks in which the day is the first one or not. */
    long doubt(int d, int part) {
        if (noDay(d)) return UNKNOWN;
        if (refusal(part) != 0) return refusal(part);
        int n = lastWeeks().size();
        long was = lastWeeks().stream().filter(w -> w.get(0) == d).count();
        long first = orders.stream().filter(o -> o.get(0) == d).count();
        long above = 0;
        long below = 1;
        for (int i = 0; i < n; i++) below *= orders.size();
        for (int pattern = 0; pattern < 1 << n; pattern++) {
            if (Integer.bitCount(pattern) < was) continue;
            long ways = 1;
            for (int i = 0; i < n; i++) ways *= (pattern >> i & 1) == 1 ? first : orders.size() - first;
            above += ways;
        }
        return terms(above, below, part);
    }

    int loose(int d, int e, int what) {
        if (noDay(d) || noDay(e) || d == e) return UNKNOWN;
        if (what != 0 && what != 1) return OUTSIDE;
        for (int size = 0; size <= book.rules.size(); size++) {
            for (int set = 0; set < 1 << book.rules.size(); set++) {
                if (Integer.bitCount(set) == size && isThere(d, e, set)) return what == 0 ? size : set;
            }
        }
        throw new IllegalStateException("without rules there is every order");
    }

    private boolean isThere(int d, int e, int leftOut) {
        for (List<Integer> row : ALL_ROWS) {
            boolean holds = row.indexOf(d) + 1 == row.indexOf(e);
            for (int r = 0; holds && r < book.rules.size(); r++) {
                holds = (leftOut >> r & 1) == 1 || book.rules.get(r).holds(row);
            }
            if (holds) return true;
        }
        return false;
    }

    int count(int what) {
        return switch (what) {
            case 0 -> book.works.size();
            case 1 -> book.rules.size();
            case 2 -> stand.weeks.size();
            case 3 -> stand.earned;
            case 4 -> there(stand);
            case 5 -> bets.size();
            case 6 -> facts.size();
            case 7 -> past.size();
            case 8 -> text.length();
            default -> OUTSIDE;
        };
    }
}
