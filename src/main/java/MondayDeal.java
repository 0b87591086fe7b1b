import java.util.Arrays;

/** Weeks whose seven days are dealt anew on each Monday, by rules, and the works that are done in them. */
public final class MondayDeal {
    public static final int NONE = -1, UNKNOWN = -2, OUTSIDE = -3, NOT = -4, FULL = -5;

    private static final int DAYS = 7;
    private static final int MOST_ORDERS = 5040;
    private static final int MOST_WORKS = 6;
    private static final int MOST_RULES = 6;
    private static final int MOST_LETTERS = 160;
    private static final int MOST_CLAUSES = 14;
    private static final int MOST_WORTH = 99;
    private static final int MOST_KEEPS = 20;
    private static final int MOST_WEEKS = 999;
    private static final int MOST_BETS = 6;
    private static final int MOST_PRICE = 99;
    private static final int MOST_KNOWN = 8;
    private static final int MOST_READY = 3;
    private static final int RECENT = 4;
    private static final int UNDOS = 8;
    private static final int KEPT = 2;

    /** KINDS of DAYS. */
    private static final int PLAIN = 0, DOUBLE = 1, SHORT = 2, FAST = 3;

    /** What a DAY can be taken as, where it is not its own KIND. */
    private static final int AS_DAY = 0, AS_PLAIN = 1;

    /** Forms of RULES. */
    private static final int NEVER_FIRST = 0, NEVER_BESIDE = 1, ALWAYS_AHEAD = 2;

    private final Text text = new Text();
    private final Told told = new Told();
    private final Told draft = new Told();
    private final Orders rows = new Orders();
    private final Outlook outlook = new Outlook();
    private final State now = new State();
    private final Past past = new Past();
    private final State[] kept = new State[KEPT];
    private final boolean[] isKept = new boolean[KEPT];
    private final Bets bets = new Bets();
    private final Facts facts = new Facts();
    private boolean rowsStand;
    private boolean outlookStands;

    public MondayDeal() {
        for (int k = 0; k < KEPT; k++) {
            kept[k] = new State();
        }
        told.clear();
        startAnew();
    }

    // ---- what is told

    public int write(int letter) {
        if (letter < 0 || letter > 255) {
            return OUTSIDE;
        }
        if (text.length >= MOST_LETTERS) {
            return FULL;
        }
        text.letters[text.length] = (char) letter;
        text.length++;
        return text.length;
    }

    public int erase() {
        int had = text.length;
        text.length = 0;
        return had;
    }

    public int fault() {
        draft.copy(told);
        return text.readInto(draft);
    }

    public int calendar() {
        draft.copy(told);
        if (text.readInto(draft) != NONE) {
            return NOT;
        }
        told.copy(draft);
        text.length = 0;
        startAnew();
        return text.clauses;
    }

    public int day(int day, int what) {
        if (!isDay(day)) {
            return UNKNOWN;
        }
        switch (what) {
            case 0:
                return told.kinds[day];
            case 1:
                return told.worksOn(day);
            case 2:
                return listed().placed[day][0];
            default:
                return OUTSIDE;
        }
    }

    public int work(int work, int what) {
        if (!isWork(work)) {
            return UNKNOWN;
        }
        switch (what) {
            case 0:
                return told.workDay[work];
            case 1:
                return told.worth[work];
            case 2:
                return told.keeps[work];
            case 3:
                return told.feast[work];
            case 4:
                return told.behind[work];
            case 5:
                return now.age[work];
            case 6:
                return now.done[work];
            default:
                return OUTSIDE;
        }
    }

    public int as(int day, int kind) {
        if (!isDay(day)) {
            return UNKNOWN;
        }
        if (kind < AS_DAY || kind > FAST + 1) {
            return OUTSIDE;
        }
        return told.isA(day, kind) ? told.earnedOn(day, 15) : NOT;
    }

    // ---- orders, weeks

    public int orders() {
        return listed().size;
    }

    public int order(int order, int k) {
        if (!isOrder(order)) {
            return UNKNOWN;
        }
        return isPlace(k) ? rows.dayAt(order, k) : OUTSIDE;
    }

    public int which(int digits) {
        int packed = Orders.packedOf(digits);
        if (packed == NONE) {
            return OUTSIDE;
        }
        int found = listed().find(packed);
        return found == NONE ? NOT : found;
    }

    public int deal(int order) {
        if (!isOrder(order)) {
            return UNKNOWN;
        }
        if (now.weeks >= MOST_WEEKS) {
            return FULL;
        }
        past.push(now);
        outlookStands = false;
        return outlook.dealOut(told, now, rows, order);
    }

    public int ready(int work) {
        if (!isWork(work)) {
            return UNKNOWN;
        }
        if (now.age[work] != NONE) {
            return NOT;
        }
        past.push(now);
        outlookStands = false;
        now.age[work] = 0;
        return Integer.bitCount(now.there());
    }

    public int undo() {
        if (past.size == 0) {
            return NOT;
        }
        past.pop(now);
        outlookStands = false;
        return past.size;
    }

    public int keep(int k) {
        if (!isKeep(k)) {
            return UNKNOWN;
        }
        kept[k].copy(now);
        isKept[k] = true;
        return now.weeks;
    }

    public int back(int k) {
        if (!isKeep(k)) {
            return UNKNOWN;
        }
        if (!isKept[k]) {
            return NOT;
        }
        now.copy(kept[k]);
        past.size = 0;
        outlookStands = false;
        return now.weeks;
    }

    // ---- foretold

    public int odds(int work, int part) {
        if (!isWork(work)) {
            return UNKNOWN;
        }
        int refusal = refusalOf(part);
        return refusal == 0 ? partOfOrders(foretold().timesDone(work, 0), part) : refusal;
    }

    public int mean(int part) {
        int refusal = refusalOf(part);
        return refusal == 0 ? partOfOrders(foretold().totals[0], part) : refusal;
    }

    public int safe() {
        return listed().size == 0 ? NOT : foretold().doneInAll(told.works, rows.size);
    }

    public int best(int what) {
        int refusal = refusalOf(what);
        if (refusal != 0) {
            return refusal;
        }
        return what == 0 ? foretold().most : foretold().mostOrder;
    }

    public int worst(int what) {
        int refusal = refusalOf(what);
        if (refusal != 0) {
            return refusal;
        }
        return what == 0 ? foretold().least : foretold().leastOrder;
    }

    public int makeReady(int k, int what) {
        if (k < 1 || k > MOST_READY || !isOneOfTwo(what)) {
            return OUTSIDE;
        }
        int set = foretold().bestSet(k, told.works, now.there());
        return what == 0 ? outlook.totals[set] : set;
    }

    public int fair(int day, int k, int part) {
        if (!isDay(day)) {
            return UNKNOWN;
        }
        if (k < 1 || k > DAYS) {
            return OUTSIDE;
        }
        int refusal = refusalOf(part);
        return refusal == 0 ? partOfOrders(rows.amongFirst(day, k), part) : refusal;
    }

    public int beside(int day, int other, int part) {
        if (!areTwoDays(day, other)) {
            return UNKNOWN;
        }
        int refusal = refusalOf(part);
        if (refusal != 0) {
            return refusal;
        }
        return partOfOrders(rows.follows[day][other] + rows.follows[other][day], part);
    }

    public int across(int day, int other, int part) {
        if (!isDay(day) || !isDay(other)) {
            return UNKNOWN;
        }
        int refusal = refusalOf(part);
        if (refusal != 0) {
            return refusal;
        }
        int met = rows.placed[day][DAYS - 1] * rows.placed[other][0];
        return (int) inLowestTerms(met, rows.size * rows.size, part);
    }

    public int waits(int day) {
        if (!isDay(day)) {
            return UNKNOWN;
        }
        return listed().size == 0 ? NOT : rows.longestWait(day);
    }

    // ---- bets

    public int bet(int day, int k, int price) {
        if (!isDay(day)) {
            return UNKNOWN;
        }
        if (k < 1 || k >= DAYS || price < 0 || price > MOST_PRICE) {
            return OUTSIDE;
        }
        return bets.add(day, k, price) ? bets.size : FULL;
    }

    public int call() {
        int had = bets.size;
        bets.size = 0;
        return had;
    }

    public int sure(int what) {
        int refusal = refusalOf(what);
        if (refusal != 0) {
            return refusal;
        }
        int set = bets.surest(rows);
        return what == 0 ? bets.leastWon(set) : set;
    }

    // ---- what is known

    public int known(int day, int other, int is) {
        if (!areTwoDays(day, other)) {
            return UNKNOWN;
        }
        if (!isOneOfTwo(is)) {
            return OUTSIDE;
        }
        // That a DAY did not come ahead is that the other one did.
        boolean added = is == 1 ? facts.add(day, other) : facts.add(other, day);
        return added ? facts.size : FULL;
    }

    public int forget() {
        int had = facts.size;
        facts.size = 0;
        return had;
    }

    public int fit(int what) {
        switch (what) {
            case 0:
                return facts.howManyFit(listed());
            case 1:
                return facts.nextFit(listed(), 0);
            case 2:
                return facts.weeksThatFit(now);
            default:
                return OUTSIDE;
        }
    }

    public int at(int k) {
        return isPlace(k) ? facts.dayInAll(listed(), k) : OUTSIDE;
    }

    public long doubt(int day, int part) {
        if (!isDay(day)) {
            return UNKNOWN;
        }
        int refusal = refusalOf(part);
        if (refusal != 0) {
            return refusal;
        }
        int weeks = Math.min(now.weeks, RECENT);
        long above = waysAtLeast(weeks, now.timesFirst(day), rows.placed[day][0], rows.size);
        return inLowestTerms(above, power(rows.size, weeks), part);
    }

    public int loose(int day, int other, int what) {
        if (!areTwoDays(day, other)) {
            return UNKNOWN;
        }
        if (!isOneOfTwo(what)) {
            return OUTSIDE;
        }
        int set = told.leftOutFor(day, other);
        return what == 0 ? Integer.bitCount(set) : set;
    }

    public int count(int what) {
        switch (what) {
            case 0:
                return told.works;
            case 1:
                return told.rules;
            case 2:
                return now.weeks;
            case 3:
                return now.earned;
            case 4:
                return now.there();
            case 5:
                return bets.size;
            case 6:
                return facts.size;
            case 7:
                return past.size;
            case 8:
                return text.length;
            default:
                return OUTSIDE;
        }
    }

    // ---- what the calls share

    /** Behind a text nothing of what was before it is left. */
    private void startAnew() {
        now.clear();
        past.size = 0;
        bets.size = 0;
        facts.size = 0;
        for (int k = 0; k < KEPT; k++) {
            isKept[k] = false;
        }
        rowsStand = false;
        outlookStands = false;
    }

    /** The ORDERS, which are listed only when a call asks for them: listing is dear. */
    private Orders listed() {
        if (!rowsStand) {
            rows.listAll(told);
            rowsStand = true;
        }
        return rows;
    }

    /** What is FORETOLD, looked up once for all calls between two changes. */
    private Outlook foretold() {
        if (!outlookStands) {
            outlook.look(told, now, listed());
            outlookStands = true;
        }
        return outlook;
    }

    /** Why a call that asks for one of two numbers, over all ORDERS, is refused; 0: it is not. */
    private int refusalOf(int oneOfTwo) {
        if (!isOneOfTwo(oneOfTwo)) {
            return OUTSIDE;
        }
        return listed().size == 0 ? NOT : 0;
    }

    /** So many of all ORDERS, in lowest terms. */
    private int partOfOrders(int above, int part) {
        return (int) inLowestTerms(above, rows.size, part);
    }

    private boolean isWork(int work) {
        return work >= 0 && work < told.works;
    }

    private boolean isOrder(int order) {
        return order >= 0 && order < listed().size;
    }

    private static boolean isDay(int day) {
        return day >= 0 && day < DAYS;
    }

    private static boolean areTwoDays(int day, int other) {
        return isDay(day) && isDay(other) && day != other;
    }

    private static boolean isPlace(int k) {
        return k >= 0 && k < DAYS;
    }

    private static boolean isKeep(int k) {
        return k >= 0 && k < KEPT;
    }

    private static boolean isOneOfTwo(int what) {
        return what == 0 || what == 1;
    }

    private static long inLowestTerms(long above, long below, int part) {
        long divisor = commonDivisor(above, below);
        if (divisor == 0) {
            return 0;
        }
        return part == 0 ? above / divisor : below / divisor;
    }

    private static long commonDivisor(long one, long other) {
        long greater = one;
        long less = other;
        // Each two steps halve at least, and a long has 63 bits.
        for (int i = 0; i < 130 && less != 0; i++) {
            long rest = greater % less;
            greater = less;
            less = rest;
        }
        return greater;
    }

    private static long power(long base, int times) {
        long product = 1;
        for (int i = 0; i < times; i++) {
            product *= base;
        }
        return product;
    }

    /** In how many rows of ORDERS, one for each of the weeks, at least so many are of the first few of all. */
    private static long waysAtLeast(int weeks, int least, int few, int all) {
        long sum = 0;
        long choices = 1;
        for (int hits = 0; hits <= weeks; hits++) {
            if (hits >= least) {
                sum += choices * power(few, hits) * power(all - few, weeks - hits);
            }
            choices = choices * (weeks - hits) / (hits + 1);
        }
        return sum;
    }

    /** What the texts tell: KINDS of DAYS, WORKS, RULES. */
    private static final class Told {
        private static final int ALL_RULES_AND_MORE = (1 << (MOST_RULES + 1)) - 1;

        final int[] kinds = new int[DAYS];
        int works;
        final int[] workDay = new int[MOST_WORKS];
        final int[] worth = new int[MOST_WORKS];
        final int[] keeps = new int[MOST_WORKS];
        final int[] feast = new int[MOST_WORKS];
        final int[] behind = new int[MOST_WORKS];
        int rules;
        final int[] ruleForm = new int[MOST_RULES];
        final int[] ruleDay = new int[MOST_RULES];
        final int[] ruleOther = new int[MOST_RULES];

        void clear() {
            Arrays.fill(kinds, PLAIN);
            works = 0;
            rules = 0;
        }

        void copy(Told from) {
            System.arraycopy(from.kinds, 0, kinds, 0, DAYS);
            works = from.works;
            System.arraycopy(from.workDay, 0, workDay, 0, MOST_WORKS);
            System.arraycopy(from.worth, 0, worth, 0, MOST_WORKS);
            System.arraycopy(from.keeps, 0, keeps, 0, MOST_WORKS);
            System.arraycopy(from.feast, 0, feast, 0, MOST_WORKS);
            System.arraycopy(from.behind, 0, behind, 0, MOST_WORKS);
            rules = from.rules;
            System.arraycopy(from.ruleForm, 0, ruleForm, 0, MOST_RULES);
            System.arraycopy(from.ruleDay, 0, ruleDay, 0, MOST_RULES);
            System.arraycopy(from.ruleOther, 0, ruleOther, 0, MOST_RULES);
        }

        void addWork(int day, int itsWorth, int itsKeeps, int isFeast) {
            if (works >= MOST_WORKS) {
                return;
            }
            workDay[works] = day;
            worth[works] = itsWorth;
            keeps[works] = itsKeeps;
            feast[works] = isFeast;
            behind[works] = NONE;
            works++;
        }

        void addRule(int form, int day, int other) {
            if (rules >= MOST_RULES) {
                return;
            }
            ruleForm[rules] = form;
            ruleDay[rules] = day;
            ruleOther[rules] = other;
            rules++;
        }

        int worksOn(int day) {
            int bits = 0;
            for (int w = 0; w < works; w++) {
                if (workDay[w] == day) {
                    bits |= 1 << w;
                }
            }
            return bits;
        }

        boolean isA(int day, int kind) {
            int own = kinds[day];
            return kind == AS_DAY || kind == own + 1 || kind == AS_PLAIN && own != FAST;
        }

        int earnedOn(int day, int itsWorth) {
            switch (kinds[day]) {
                case DOUBLE:
                    return itsWorth * 2;
                case SHORT:
                    return itsWorth / 2;
                default:
                    return itsWorth;
            }
        }

        boolean isForbidden(int work) {
            return feast[work] == 1 && kinds[workDay[work]] == FAST;
        }

        /** The RULES that are broken where a DAY comes directly behind last (NONE: it is the first), behind those used. */
        int brokenBy(int used, int last, int day) {
            int broken = 0;
            for (int r = 0; r < rules; r++) {
                if (breaks(r, used, last, day)) {
                    broken |= 1 << r;
                }
            }
            return broken;
        }

        private boolean breaks(int rule, int used, int last, int day) {
            int one = ruleDay[rule];
            int other = ruleOther[rule];
            switch (ruleForm[rule]) {
                case NEVER_FIRST:
                    return last == NONE && day == one;
                case NEVER_BESIDE:
                    return day == one && last == other || day == other && last == one;
                default:
                    return day == other && (used >> one & 1) == 0;
            }
        }

        /** The RULES to be left out for an ORDER with day directly ahead of other. */
        int leftOutFor(int day, int other) {
            return fewestBroken(0, 0, NONE, 0, day, other);
        }

        /** The least of the smallest sets of RULES that rows with this beginning break, day being directly ahead of other. */
        private int fewestBroken(int place, int used, int last, int broken, int day, int other) {
            if (place >= DAYS) {
                return broken;
            }
            int fewest = ALL_RULES_AND_MORE;
            for (int d = 0; d < DAYS; d++) {
                boolean pairIsKept = (last == day) == (d == other);
                if ((used >> d & 1) == 0 && pairIsKept) {
                    int more = broken | brokenBy(used, last, d);
                    fewest = fewer(fewest, fewestBroken(place + 1, used | 1 << d, d, more, day, other));
                }
            }
            return fewest;
        }

        private static int fewer(int one, int other) {
            int oneSize = Integer.bitCount(one);
            int otherSize = Integer.bitCount(other);
            if (oneSize == otherSize) {
                return Math.min(one, other);
            }
            return oneSize < otherSize ? one : other;
        }
    }

    /** THE TEXT, and how far it is read. */
    private static final class Text {
        private static final int OTHER_SIGN = 0, SMALL_LETTER = 1, DIGIT = 2;

        final char[] letters = new char[MOST_LETTERS];
        int length;
        /** How many CLAUSES the last reading went through. */
        int clauses;
        /** The TOKEN that was read last: its first letter, and the one behind it. */
        private int start;
        private int end;

        /** Does the CLAUSES on the draft, up to the FAULT; answers its place, or NONE. */
        int readInto(Told draft) {
            end = 0;
            clauses = 0;
            while (clauses < MOST_CLAUSES) {
                nextToken();
                if (!readClause(draft)) {
                    return start;
                }
                clauses++;
                nextToken();
                if (start >= length) {
                    return NONE;
                }
                if (letters[start] != ';') {
                    return start;
                }
            }
            // Behind the last CLAUSE that may be, a ; itself cannot stand: no CLAUSE could follow it.
            return start;
        }

        private void nextToken() {
            start = end;
            while (start < length && letters[start] == ' ') {
                start++;
            }
            end = start;
            if (start >= length) {
                return;
            }
            int sort = sortOf(letters[start]);
            end++;
            while (sort != OTHER_SIGN && end < length && sortOf(letters[end]) == sort) {
                end++;
            }
        }

        private static int sortOf(char letter) {
            if (letter >= 'a' && letter <= 'z') {
                return SMALL_LETTER;
            }
            return letter >= '0' && letter <= '9' ? DIGIT : OTHER_SIGN;
        }

        /** False: the TOKEN that was read last cannot stand there. */
        private boolean readClause(Told draft) {
            if (reads("calendar")) {
                draft.clear();
                return true;
            }
            if (reads("free")) {
                draft.rules = 0;
                return true;
            }
            if (reads("idle")) {
                draft.works = 0;
                return true;
            }
            if (reads("work")) {
                return readWork(draft, 0);
            }
            if (reads("feast")) {
                return readWork(draft, 1);
            }
            if (reads("behind")) {
                return readBehind(draft);
            }
            int kind = kindRead();
            if (kind != NONE) {
                return readKind(draft, kind);
            }
            int form = ruleRead();
            return form != NONE && readRule(draft, form);
        }

        private int kindRead() {
            if (reads("plain")) {
                return PLAIN;
            }
            if (reads("double")) {
                return DOUBLE;
            }
            if (reads("short")) {
                return SHORT;
            }
            return reads("fast") ? FAST : NONE;
        }

        private int ruleRead() {
            if (reads("first")) {
                return NEVER_FIRST;
            }
            if (reads("beside")) {
                return NEVER_BESIDE;
            }
            return reads("ahead") ? ALWAYS_AHEAD : NONE;
        }

        private boolean readKind(Told draft, int kind) {
            int day = nextNumber(DAYS - 1);
            if (day == NONE) {
                return false;
            }
            draft.kinds[day] = kind;
            return true;
        }

        private boolean readWork(Told draft, int isFeast) {
            if (draft.works >= MOST_WORKS) {
                return false;
            }
            int day = nextNumber(DAYS - 1);
            if (day == NONE) {
                return false;
            }
            int worth = nextNumber(MOST_WORTH);
            if (worth == NONE) {
                return false;
            }
            int keeps = nextNumber(MOST_KEEPS);
            if (keeps == NONE) {
                return false;
            }
            draft.addWork(day, worth, keeps, isFeast);
            return true;
        }

        private boolean readBehind(Told draft) {
            int later = nextNumber(draft.works - 1);
            if (later == NONE) {
                return false;
            }
            int earlier = nextNumber(draft.works - 1);
            if (earlier == NONE || earlier == later) {
                return false;
            }
            draft.behind[later] = earlier;
            return true;
        }

        private boolean readRule(Told draft, int form) {
            if (draft.rules >= MOST_RULES) {
                return false;
            }
            int day = nextNumber(DAYS - 1);
            if (day == NONE) {
                return false;
            }
            int other = NONE;
            if (form != NEVER_FIRST) {
                other = nextNumber(DAYS - 1);
                if (other == NONE || other == day) {
                    return false;
                }
            }
            draft.addRule(form, day, other);
            return true;
        }

        private boolean reads(String word) {
            if (end - start != word.length()) {
                return false;
            }
            for (int i = 0; i < word.length(); i++) {
                if (letters[start + i] != word.charAt(i)) {
                    return false;
                }
            }
            return true;
        }

        /** The next TOKEN as a number of one or two digits, 0 .. most; NONE: it is none. */
        private int nextNumber(int most) {
            nextToken();
            int size = end - start;
            if (size < 1 || size > 2 || sortOf(letters[start]) != DIGIT) {
                return NONE;
            }
            int value = 0;
            for (int i = start; i < end; i++) {
                value = value * 10 + letters[i] - '0';
            }
            return value <= most ? value : NONE;
        }
    }

    /** The ORDERS as they rise, each with its DAYS packed by three bits, the first one highest. */
    private static final class Orders {
        private static final int BITS = 3;

        final int[] packed = new int[MOST_ORDERS];
        int size;
        /** In how many ORDERS a DAY is at a place. */
        final int[][] placed = new int[DAYS][DAYS];
        /** In how many ORDERS behind a DAY another one comes directly. */
        final int[][] follows = new int[DAYS][DAYS];

        static int dayIn(int row, int place) {
            return row >> BITS * (DAYS - 1 - place) & (1 << BITS) - 1;
        }

        static boolean isAhead(int row, int day, int other) {
            for (int place = 0; place < DAYS; place++) {
                int here = dayIn(row, place);
                if (here == day || here == other) {
                    return here == day;
                }
            }
            return false;
        }

        /** Seven DAYS as digits, packed; NONE: it is no row of seven DAYS. */
        static int packedOf(int digits) {
            if (digits < 0) {
                return NONE;
            }
            int rest = digits;
            int row = 0;
            int used = 0;
            for (int i = 0; i < DAYS; i++) {
                int digit = rest % 10;
                rest /= 10;
                if (!isDay(digit) || (used >> digit & 1) != 0) {
                    return NONE;
                }
                used |= 1 << digit;
                row |= digit << BITS * i;
            }
            return rest == 0 ? row : NONE;
        }

        void listAll(Told told) {
            size = 0;
            for (int d = 0; d < DAYS; d++) {
                Arrays.fill(placed[d], 0);
                Arrays.fill(follows[d], 0);
            }
            listFrom(told, 0, 0, NONE, 0);
        }

        /** Lists the ORDERS with this beginning: how many. */
        private int listFrom(Told told, int place, int used, int last, int row) {
            if (place >= DAYS) {
                return put(row);
            }
            int sum = 0;
            for (int d = 0; d < DAYS; d++) {
                if ((used >> d & 1) == 0 && told.brokenBy(used, last, d) == 0) {
                    int more = listFrom(told, place + 1, used | 1 << d, d, row << BITS | d);
                    placed[d][place] += more;
                    if (last != NONE) {
                        follows[last][d] += more;
                    }
                    sum += more;
                }
            }
            return sum;
        }

        private int put(int row) {
            if (size >= MOST_ORDERS) {
                return 0;
            }
            packed[size] = row;
            size++;
            return 1;
        }

        int dayAt(int order, int place) {
            return dayIn(packed[order], place);
        }

        /** The first place at which an ORDER is not as the one ahead of it. */
        int firstChange(int order) {
            if (order == 0) {
                return 0;
            }
            int change = packed[order] ^ packed[order - 1];
            int place = 0;
            while (place < DAYS - 1 && dayIn(change, place) == 0) {
                place++;
            }
            return place;
        }

        int find(int row) {
            int low = 0;
            int high = size - 1;
            // Each step halves what is left at least.
            for (int step = 0; step < size && low <= high; step++) {
                int middle = (low + high) / 2;
                if (packed[middle] == row) {
                    return middle;
                }
                if (packed[middle] < row) {
                    low = middle + 1;
                } else {
                    high = middle - 1;
                }
            }
            return NONE;
        }

        int amongFirst(int day, int k) {
            int sum = 0;
            for (int place = 0; place < k; place++) {
                sum += placed[day][place];
            }
            return sum;
        }

        /** As early as can be in one WEEK, as late as can be in the next one. */
        int longestWait(int day) {
            int early = 0;
            while (early < DAYS - 1 && placed[day][early] == 0) {
                early++;
            }
            int late = DAYS - 1;
            while (late > 0 && placed[day][late] == 0) {
                late--;
            }
            return DAYS - early + late;
        }
    }

    /** What is there, was earned and done, and the WEEKS: all that deal() and ready() change. */
    private static final class State {
        final int[] age = new int[MOST_WORKS];
        final int[] done = new int[MOST_WORKS];
        int earned;
        int weeks;
        /** The ORDERS of the last WEEKS, packed, the latest first. */
        final int[] recent = new int[RECENT];

        void clear() {
            Arrays.fill(age, NONE);
            Arrays.fill(done, 0);
            earned = 0;
            weeks = 0;
            Arrays.fill(recent, 0);
        }

        void copy(State from) {
            System.arraycopy(from.age, 0, age, 0, MOST_WORKS);
            System.arraycopy(from.done, 0, done, 0, MOST_WORKS);
            earned = from.earned;
            weeks = from.weeks;
            System.arraycopy(from.recent, 0, recent, 0, RECENT);
        }

        int there() {
            int bits = 0;
            for (int w = 0; w < MOST_WORKS; w++) {
                if (age[w] != NONE) {
                    bits |= 1 << w;
                }
            }
            return bits;
        }

        void addWeek(int row) {
            for (int i = RECENT - 1; i > 0; i--) {
                recent[i] = recent[i - 1];
            }
            recent[0] = row;
            weeks++;
        }

        int timesFirst(int day) {
            int times = 0;
            for (int i = 0; i < RECENT && i < weeks; i++) {
                if (Orders.dayIn(recent[i], 0) == day) {
                    times++;
                }
            }
            return times;
        }
    }

    /** How it was ahead of the latest deal() and ready() calls, in a ring: the oldest gives way. */
    private static final class Past {
        private final State[] states = new State[UNDOS];
        private int newest;
        int size;

        Past() {
            for (int i = 0; i < UNDOS; i++) {
                states[i] = new State();
            }
        }

        void push(State state) {
            newest = (newest + 1) % UNDOS;
            states[newest].copy(state);
            size = Math.min(size + 1, UNDOS);
        }

        void pop(State into) {
            into.copy(states[newest]);
            newest = (newest + UNDOS - 1) % UNDOS;
            size--;
        }
    }

    /**
     * WEEKS played ahead. All sets of PARTS that could be MADE READY are played at once, each in a lane of its own,
     * which is a bit of a long: lane 0 is the WEEK as it is, with nothing MADE READY.
     */
    private static final class Outlook {
        /** For each WORK the lanes in whose sets it is. */
        private static final long[] LANES = {
            0xAAAAAAAAAAAAAAAAL, 0xCCCCCCCCCCCCCCCCL, 0xF0F0F0F0F0F0F0F0L,
            0xFF00FF00FF00FF00L, 0xFFFF0000FFFF0000L, 0xFFFFFFFF00000000L
        };
        private static final long ALL_LANES = -1L;
        private static final int COUNTER_BITS = 13;

        /** By place and WORK: the lanes with a PART from ahead of the WEEK, and with one made in it (spoilt or not). */
        private final long[][] old = new long[DAYS + 1][MOST_WORKS];
        private final long[][] made = new long[DAYS + 1][MOST_WORKS];
        /** The last place at which a PART from ahead of the WEEK is not spoilt. */
        private final int[] lastOld = new int[MOST_WORKS];
        private final int[] placeOf = new int[DAYS];
        /** The lanes in which a WORK is done in the ORDER that is played. */
        private final long[] done = new long[MOST_WORKS];
        private final int[] gain = new int[MOST_WORKS];
        /** In how many ORDERS a WORK is done: a counter for each lane, whose bits are in the lane's bits of the row. */
        private final long[][] times = new long[MOST_WORKS][COUNTER_BITS];
        /** What is earned in all ORDERS together, by lanes. */
        final int[] totals = new int[1 << MOST_WORKS];
        int most;
        int mostOrder;
        int least;
        int leastOrder;

        void look(Told told, State state, Orders orders) {
            begin(told, state);
            for (int w = 0; w < MOST_WORKS; w++) {
                Arrays.fill(times[w], 0L);
            }
            for (int order = 0; order < orders.size; order++) {
                // What two neighbours begin with alike has been played already.
                for (int place = orders.firstChange(order); place < DAYS; place++) {
                    play(told, place, orders.dayAt(order, place));
                }
                tallyAll(told.works, order);
            }
            addUp(told.works);
        }

        /** A WEEK is dealt: what is earned in it. */
        int dealOut(Told told, State state, Orders orders, int order) {
            begin(told, state);
            for (int place = 0; place < DAYS; place++) {
                play(told, place, orders.dayAt(order, place));
            }
            for (int w = 0; w < told.works; w++) {
                state.age[w] = ageBehind(told, state, w);
                if (isDone(w)) {
                    state.done[w]++;
                }
            }
            int earned = earnedNow(told.works);
            state.earned += earned;
            state.addWeek(orders.packed[order]);
            return earned;
        }

        private void begin(Told told, State state) {
            for (int w = 0; w < told.works; w++) {
                boolean isThere = state.age[w] != NONE;
                old[0][w] = isThere ? ALL_LANES : LANES[w];
                made[0][w] = 0L;
                // On the first DAY it is a day older already.
                lastOld[w] = told.keeps[w] - 1 - (isThere ? state.age[w] : 0);
                gain[w] = told.earnedOn(told.workDay[w], told.worth[w]);
            }
        }

        private void play(Told told, int place, int day) {
            System.arraycopy(old[place], 0, old[place + 1], 0, told.works);
            System.arraycopy(made[place], 0, made[place + 1], 0, told.works);
            placeOf[day] = place;
            for (int w = 0; w < told.works; w++) {
                if (told.workDay[w] == day) {
                    doWork(told, place, w);
                }
            }
        }

        private void doWork(Told told, int place, int work) {
            long[] oldNow = old[place + 1];
            long[] madeNow = made[place + 1];
            long lanes = told.isForbidden(work) ? 0L : ALL_LANES;
            int needed = told.behind[work];
            if (needed != NONE) {
                lanes &= lanesWith(told, place, needed);
                oldNow[needed] &= ~lanes;
                madeNow[needed] &= ~lanes;
            }
            oldNow[work] &= ~lanes;
            madeNow[work] |= lanes;
            done[work] = lanes;
        }

        /** The lanes in which a PART is there, not spoilt, on the DAY at a place. */
        private long lanesWith(Told told, int place, int work) {
            long lanes = 0L;
            if (place <= lastOld[work]) {
                lanes |= old[place + 1][work];
            }
            // Where its DAY is yet to come no lane has made it, and the place, left from another ORDER, does not matter.
            if (place - placeOf[told.workDay[work]] <= told.keeps[work]) {
                lanes |= made[place + 1][work];
            }
            return lanes;
        }

        private int ageBehind(Told told, State state, int work) {
            int age = NONE;
            if ((made[DAYS][work] & 1L) != 0) {
                age = DAYS - 1 - placeOf[told.workDay[work]];
            } else if ((old[DAYS][work] & 1L) != 0) {
                age = state.age[work] + DAYS;
            }
            return age <= told.keeps[work] ? age : NONE;
        }

        private boolean isDone(int work) {
            return (done[work] & 1L) != 0;
        }

        private int earnedNow(int works) {
            int earned = 0;
            for (int w = 0; w < works; w++) {
                if (isDone(w)) {
                    earned += gain[w];
                }
            }
            return earned;
        }

        private void tallyAll(int works, int order) {
            for (int w = 0; w < works; w++) {
                tally(times[w], done[w]);
            }
            int earned = earnedNow(works);
            if (order == 0 || earned > most) {
                most = earned;
                mostOrder = order;
            }
            if (order == 0 || earned < least) {
                least = earned;
                leastOrder = order;
            }
        }

        /** One more in the counters of these lanes: all of them carry at once. */
        private static void tally(long[] counters, long lanes) {
            long carry = lanes;
            for (int b = 0; b < COUNTER_BITS && carry != 0; b++) {
                long next = counters[b] & carry;
                counters[b] ^= carry;
                carry = next;
            }
        }

        int timesDone(int work, int lane) {
            int sum = 0;
            for (int b = 0; b < COUNTER_BITS; b++) {
                sum |= (int) (times[work][b] >>> lane & 1L) << b;
            }
            return sum;
        }

        private void addUp(int works) {
            for (int set = 0; set < 1 << works; set++) {
                int total = 0;
                for (int w = 0; w < works; w++) {
                    total += gain[w] * timesDone(w, set);
                }
                totals[set] = total;
            }
        }

        int doneInAll(int works, int orders) {
            int bits = 0;
            for (int w = 0; w < works; w++) {
                if (timesDone(w, 0) == orders) {
                    bits |= 1 << w;
                }
            }
            return bits;
        }

        /** The least set of at most k PARTS that are not there by which most is earned. */
        int bestSet(int k, int works, int there) {
            int best = 0;
            for (int set = 1; set < 1 << works; set++) {
                if ((set & there) == 0 && Integer.bitCount(set) <= k && totals[set] > totals[best]) {
                    best = set;
                }
            }
            return best;
        }
    }

    /** BETS that a DAY comes as one of the first k. */
    private static final class Bets {
        private static final int PRIZE = 100;

        private final int[] days = new int[MOST_BETS];
        private final int[] firsts = new int[MOST_BETS];
        private final int[] prices = new int[MOST_BETS];
        int size;
        /** The sets of BETS that some ORDER wins, each a bit. */
        private long outcomes;

        boolean add(int day, int k, int price) {
            if (size >= MOST_BETS) {
                return false;
            }
            days[size] = day;
            firsts[size] = k;
            prices[size] = price;
            size++;
            return true;
        }

        /** The least set by which most is won, whatever ORDER is dealt. */
        int surest(Orders orders) {
            outcomes = 0L;
            for (int order = 0; order < orders.size; order++) {
                outcomes |= 1L << wonBy(orders.packed[order]);
            }
            int best = 0;
            int mostWon = 0;
            for (int set = 1; set < 1 << size; set++) {
                int won = leastWon(set);
                if (won > mostWon) {
                    mostWon = won;
                    best = set;
                }
            }
            return best;
        }

        private int wonBy(int row) {
            int won = 0;
            for (int b = 0; b < size; b++) {
                for (int place = 0; place < firsts[b]; place++) {
                    if (Orders.dayIn(row, place) == days[b]) {
                        won |= 1 << b;
                    }
                }
            }
            return won;
        }

        /** What a set wins by the worst of the outcomes that surest() found. */
        int leastWon(int set) {
            int paid = 0;
            for (int b = 0; b < size; b++) {
                if ((set >> b & 1) != 0) {
                    paid += prices[b];
                }
            }
            int fewest = Integer.bitCount(set);
            for (int won = 0; won < 1 << size; won++) {
                if ((outcomes >>> won & 1L) != 0) {
                    fewest = Math.min(fewest, Integer.bitCount(set & won));
                }
            }
            return fewest * PRIZE - paid;
        }
    }

    /** What is KNOWN of a WEEK: DAYS that came ahead of others. */
    private static final class Facts {
        private final int[] earlier = new int[MOST_KNOWN];
        private final int[] later = new int[MOST_KNOWN];
        int size;

        boolean add(int day, int other) {
            if (size >= MOST_KNOWN) {
                return false;
            }
            earlier[size] = day;
            later[size] = other;
            size++;
            return true;
        }

        private boolean agree(int row) {
            for (int i = 0; i < size; i++) {
                if (!Orders.isAhead(row, earlier[i], later[i])) {
                    return false;
                }
            }
            return true;
        }

        /** The first ORDER from this one on that FITS; NONE. */
        int nextFit(Orders orders, int from) {
            for (int order = from; order < orders.size; order++) {
                if (agree(orders.packed[order])) {
                    return order;
                }
            }
            return NONE;
        }

        int howManyFit(Orders orders) {
            int fits = 0;
            for (int order = 0; order < orders.size; order++) {
                if (agree(orders.packed[order])) {
                    fits++;
                }
            }
            return fits;
        }

        int weeksThatFit(State state) {
            int bits = 0;
            for (int i = 0; i < RECENT && i < state.weeks; i++) {
                if (agree(state.recent[i])) {
                    bits |= 1 << i;
                }
            }
            return bits;
        }

        int dayInAll(Orders orders, int place) {
            int first = nextFit(orders, 0);
            if (first == NONE) {
                return NONE;
            }
            int day = orders.dayAt(first, place);
            for (int order = first + 1; order < orders.size; order++) {
                if (orders.dayAt(order, place) != day && agree(orders.packed[order])) {
                    return NONE;
                }
            }
            return day;
        }
    }
}
