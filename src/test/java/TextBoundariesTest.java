/** Sentences that name boundary cases of what is told: promises 1 to 8, THE TEXT. */
public final class TextBoundariesTest extends Sentences {
    /** Each CLAUSE there is, its TOKENS apart, as they can stand behind two WORKS. */
    private static final String[] CLAUSES = {
        "calendar", "plain 0", "double 0", "short 0", "fast 0", "work 0 0 0", "feast 0 0 0", "behind 1 0", "first 0",
        "beside 0 1", "ahead 0 1", "free", "idle"
    };
    private static final String TWO_WORKS = "work 0 1 1;work 1 1 1";
    private static final String SIX_RULES = "first 0;beside 0 1;ahead 0 1;first 1;beside 1 2;ahead 1 2";
    /** 14 CLAUSES, six WORKS, six RULES, 160 letters. */
    private static final String LONGEST = "free;" + "work 0 99 20;".repeat(6) + "beside 0 1;".repeat(6) + "behind 5 4 ";

    public static void main(String[] args) throws Exception {
        testAll(TextBoundariesTest.class);
    }

    // ---- promise 1

    @Says(promise = 1, words = "PLAIN DAYS, no WORKS, no RULES.")
    static void aNewObjectHasNothing() {
        for (int d = 0; d <= 6; d++) {
            is("day(d, 0)", x.day(d, 0), 0);
            is("day(d, 1)", x.day(d, 1), 0);
            is("day(d, 2)", x.day(d, 2), 720);
        }
        for (int what = 0; what <= 8; what++) is("count(" + what + ")", x.count(what), 0);
        is("orders()", x.orders(), 5040);
        is("work(0, 0)", x.work(0, 0), UNKNOWN);
        is("undo()", x.undo(), NOT);
        is("back(0)", x.back(0), NOT);
        is("back(1)", x.back(1), NOT);
        is("fit(2)", x.fit(2), 0);
    }

    @Says(promise = 1, words = "PLAIN DAYS, no WORKS, no RULES.")
    static void aNewObjectHasNothingOfAnotherOne() {
        tell(PAIR + ";first 3;double 4");
        x.deal(0);
        x.keep(0);
        x.bet(0, 1, 1);
        x.known(0, 1, 1);
        put("free");
        aNewObjectHasNothingAt(new MondayDeal());
        is("count(2) of the other one", x.count(2), 1);
        is("count(8) of the other one", x.count(8), 4);
    }

    private static void aNewObjectHasNothingAt(MondayDeal another) {
        MondayDeal before = x;
        x = another;
        aNewObjectHasNothing();
        x = before;
    }

    @Says(promise = 1, words = "An object is used for at most 512 calls after it has been made; what later calls answer is free.")
    static void the512thCallIsAnsweredYet() {
        tell("work 0 99 9;double 0");
        // 21 calls until here, 490 deals, then one more.
        for (int n = 1; n <= 490; n++) is("deal(5039)", x.deal(5039), 198);
        is("the 512th call, count(3)", x.count(3), 490 * 198);
    }

    // ---- DAYS, WORKS, RULES

    @Says(promise = 6, words = "6, each of a KIND, 0 PLAIN (as at first), 1 DOUBLE, 2 SHORT, 3 FAST.")
    static void eachDayIsOfEachKind() {
        String[] words = {"plain", "double", "short", "fast"};
        for (int d = 0; d <= 6; d++) {
            for (int kind = 0; kind <= 3; kind++) {
                anew("double " + d + ";" + words[kind] + " " + d);
                for (int e = 0; e <= 6; e++) is(words[kind] + " " + d + ": day(" + e + ", 0)", x.day(e, 0), d == e ? kind : 0);
            }
        }
    }

    @Says(promise = 7, words = "WORKS are 0, 1 .. as they come, 6 at most (none at first):")
    static void sixWorksAreNumberedAsTheyCome() {
        is("none at first, count(0)", x.count(0), 0);
        is("work(0, 0)", x.work(0, 0), UNKNOWN);
        String clause = "work 6 10 3;work 5 11 4;feast 4 12 5";
        tell(clause);
        is("three of six, count(0)", x.count(0), 3);
        is("work(3, 0)", x.work(3, 0), UNKNOWN);
        tell(clause);
        is("six of six, count(0)", x.count(0), 6);
        for (int w = 0; w < 6; w++) {
            is("work(" + w + ", 0)", x.work(w, 0), 6 - w % 3);
            is("work(" + w + ", 1)", x.work(w, 1), 10 + w % 3);
        }
        is("work(6, 0)", x.work(6, 0), UNKNOWN);
        put("work 0 1 1");
        is("a seventh", x.calendar(), NOT);
        is("count(0)", x.count(0), 6);
    }

    @Says(promise = 7, words = "of a DAY, with a WORTH (0 .. 99), PARTS that KEEP for 0 .. 20 days, a FEAST or not, BEHIND another WORK, or none.")
    static void worksAreToldAtBothEnds() {
        tell("work 0 0 0;feast 6 99 20;behind 1 0");
        int[][] due = {{0, 0, 0, 0, NONE, NONE, 0}, {6, 99, 20, 1, 0, NONE, 0}};
        for (int w = 0; w < 2; w++) {
            for (int what = 0; what <= 6; what++) is("work(" + w + ", " + what + ")", x.work(w, what), due[w][what]);
        }
    }

    @Says(promise = 4, words = "with a WORTH (0 .. 99)")
    static void aWorthIs0To99() {
        for (int v = 0; v <= 99; v++) {
            faultOf("work 3 " + v + " 4", NONE);
            is("work(0, 1)", x.work(0, 1), v);
        }
        for (String v : new String[] {"100", "099", "000", "999", "1000", "-1"}) {
            faultOf("work 3 " + v + " 4", 7);
            faultOf("feast 3 " + v + " 4", 8);
        }
    }

    @Says(promise = 4, words = "PARTS that KEEP for 0 .. 20 days")
    static void aPartKeepsFor0To20Days() {
        for (int k = 0; k <= 99; k++) {
            faultOf("feast 3 4 " + k, k <= 20 ? NONE : 10);
            if (k <= 20) is("work(0, 2)", x.work(0, 2), k);
        }
        faultOf("work 3 4 020", 9);
        faultOf("work 3 4 200", 9);
        faultOf("work 3 4 -0", 9);
    }

    @Says(promise = 36, words = "RULES are 6 at most (none at first):")
    static void rulesAreSixAtMost() {
        is("none at first, count(1)", x.count(1), 0);
        tell("first 0;first 0;first 0;first 0;first 0");
        is("count(1)", x.count(1), 5);
        tell("ahead 0 1");
        is("count(1)", x.count(1), 6);
        put("beside 0 1");
        is("a seventh", x.calendar(), NOT);
        is("count(1)", x.count(1), 6);
    }

    // ---- promises 2, 3

    @Says(promise = 2, words = "A letter (its number, 0 .. 255) more of THE TEXT: how many it has.")
    static void aLetterIs0To255() {
        is("write(0)", x.write(0), 1);
        is("write(255)", x.write(255), 2);
        for (int letter : new int[] {-1, 256, LOW, HIGH, -255, 512, 65536, 65636}) {
            is("write(" + letter + ")", x.write(letter), OUTSIDE);
            is("count(8)", x.count(8), 2);
        }
        is("write(1)", x.write(1), 3);
    }

    @Says(promise = 2, words = "A letter (its number, 0 .. 255) more of THE TEXT: how many it has.")
    static void everyLetterCanBeWritten() {
        for (int letter = 0; letter < 160; letter++) is("write(" + letter + ")", x.write(letter), letter + 1);
        x.erase();
        for (int letter = 160; letter <= 255; letter++) is("write(" + letter + ")", x.write(letter), letter - 159);
    }

    @Says(promise = 2, words = "OUTSIDE; FULL.")
    static void whereTheTextIsFullTheFirstRefusalIsOutside() {
        put(blanks(160));
        is("write(256)", x.write(256), OUTSIDE);
        is("write(-1)", x.write(-1), OUTSIDE);
        is("write(0)", x.write(0), FULL);
        is("write(255)", x.write(255), FULL);
        is("count(8)", x.count(8), 160);
    }

    @Says(promise = 2, words = "THE TEXT is a row of letters, 160 at most:")
    static void theTextHas160LettersAtMost() {
        for (int n = 1; n <= 160; n++) is("write", x.write(n == 160 ? 'e' : n < 157 ? ' ' : "fre".charAt(n - 157)), n);
        is("the 161st", x.write('s'), FULL);
        is("and it is not there: fault()", x.fault(), NONE);
        is("calendar()", x.calendar(), 1);
        is("behind it there is room again", x.write('f'), 1);
    }

    @Says(promise = 2, words = "THE TEXT is a row of letters, 160 at most:")
    static void theLongestTextIsDone() {
        put(LONGEST);
        is("count(8)", x.count(8), 160);
        is("write(' ')", x.write(' '), FULL);
        is("fault()", x.fault(), NONE);
        is("calendar()", x.calendar(), 14);
        is("count(0)", x.count(0), 6);
        is("count(1)", x.count(1), 6);
        is("work(5, 4)", x.work(5, 4), 4);
        is("count(8)", x.count(8), 0);
    }

    @Says(promise = 3, words = "THE TEXT is empty: how many letters it had.")
    static void anEmptyTextIsErased() {
        is("erase()", x.erase(), 0);
        is("erase()", x.erase(), 0);
        is("count(8)", x.count(8), 0);
        is("fault()", x.fault(), 0);
    }

    @Says(promise = 3, words = "THE TEXT is empty: how many letters it had.")
    static void aFullTextIsErased() {
        put(blanks(161));
        is("erase()", x.erase(), 160);
        is("erase()", x.erase(), 0);
        is("write('f')", x.write('f'), 1);
        put("ree");
        is("nothing of the old text is left: fault()", x.fault(), NONE);
    }

    @Says(promise = 3, words = "THE TEXT is empty: how many letters it had.")
    static void onlyTheTextIsErased() {
        tell(PAIR + ";first 3");
        x.deal(0);
        x.keep(1);
        x.bet(0, 1, 1);
        x.known(0, 1, 1);
        put("free");
        is("erase()", x.erase(), 4);
        int[] due = {2, 1, 1, 30, 2, 1, 1, 1, 0};
        for (int what = 0; what <= 8; what++) is("count(" + what + ")", x.count(what), due[what]);
        is("back(1)", x.back(1), 1);
    }

    // ---- promise 4: THE TEXT

    @Says(promise = 4, words = "The place of the FAULT (the letter with which the TOKEN begins, or the length); NONE.")
    static void theFirstAndTheLastPlace() {
        faultOf("", 0);
        faultOf(" ", 1);
        faultOf(blanks(160), 160);
        faultOf(LONGEST, NONE);
        String ahead = LONGEST.substring(0, 149);
        faultOf(ahead + "behind 5   ", 160);
        faultOf(ahead + "behind 5  6", 159);
        faultOf(ahead + "behind 5 44", 158);
        faultOf(ahead + "behind 05 4", NONE);
        faultOf(ahead + "xbehind 5 4", 149);
    }

    @Says(promise = 4, words = "The place of the FAULT (the letter with which the TOKEN begins, or the length); NONE.")
    static void lookingForTheFaultChangesNothing() {
        tell(PAIR);
        x.deal(0);
        x.keep(0);
        put("calendar;first 1;work 0 1 1");
        for (int i = 0; i < 3; i++) is("fault()", x.fault(), NONE);
        int[] due = {2, 0, 1, 30, 2, 0, 0, 1, 27};
        for (int what = 0; what <= 8; what++) is("count(" + what + ")", x.count(what), due[what]);
        is("orders()", x.orders(), 5040);
        is("work(1, 4)", x.work(1, 4), 0);
        is("back(0)", x.back(0), 1);
    }

    @Says(promise = 4, words = "The place of the FAULT (the letter with which the TOKEN begins, or the length); NONE.")
    static void whatWasReadOnceIsNotThereForTheNextReading() {
        tell(TWO_WORKS);
        put("work 0 1 1;work 0 1 1;work 0 1 1;work 0 1 1;first 0;first 0;first 0;first 0;behind 5 0");
        for (int i = 0; i < 3; i++) is("fault()", x.fault(), NONE);
        x.erase();
        put("behind 2 0");
        is("those WORKS are not there: fault()", x.fault(), 7);
        x.erase();
        put("free;idle;x");
        for (int i = 0; i < 2; i++) is("fault()", x.fault(), 10);
        x.erase();
        put("behind 1 0");
        is("these are there: fault()", x.fault(), NONE);
    }

    @Says(promise = 4, words = "CLAUSES with ; between, 14 at most;")
    static void clausesAre14AtMost() {
        faultOf("idle", NONE);
        faultOf("idle;".repeat(12) + "idle", NONE);
        faultOf("idle;".repeat(13) + "idle", NONE);
        // Behind the fourteenth no ; can stand, as no CLAUSE could come behind it.
        faultOf("idle;".repeat(14) + "idle", 69);
        faultOf("idle;".repeat(14), 69);
        faultOf("idle;".repeat(13) + "idle ;x", 70);
        faultOf("idle;".repeat(30) + "idle", 69);
        faultOf("idle;".repeat(13), 65);
        faultOf("idle;".repeat(13) + "idle x", 70);
        faultOf("idle;".repeat(13) + "x", 65);
    }

    @Says(promise = 4, words = "CLAUSES with ; between")
    static void betweenClausesIsOneSemicolon() {
        faultOf(";", 0);
        faultOf(";free", 0);
        faultOf("free;", 5);
        faultOf("free; ", 6);
        faultOf("free;;free", 5);
        faultOf("free ; ;free", 7);
        faultOf("free free", 5);
        faultOf("free,free", 4);
        faultOf("free:free", 4);
        faultOf("free;free", NONE);
        faultOf("first 1 first 2", 8);
        faultOf("first 1first 2", 7);
    }

    @Says(promise = 4, words = "each is one of: calendar. plain D. double D. short D. fast D. work D V K. feast D V K. behind I J."
        + " first D. beside D E. ahead D E. free. idle.")
    static void eachClauseIsWhole() {
        for (String clause : CLAUSES) {
            faultBehind(TWO_WORKS, clause, NONE);
            faultBehind(TWO_WORKS, "free;" + clause, NONE);
            String[] tokens = clause.split(" ");
            String read = "";
            for (String token : tokens) {
                if (!read.isEmpty()) {
                    faultBehind(TWO_WORKS, read, read.length());
                    faultBehind(TWO_WORKS, read + "  ", read.length() + 2);
                    faultBehind(TWO_WORKS, read + ";free", read.length());
                    faultBehind(TWO_WORKS, read + " x", read.length() + 1);
                    faultBehind(TWO_WORKS, read + " -1", read.length() + 1);
                }
                read += (read.isEmpty() ? "" : " ") + token;
            }
            faultBehind(TWO_WORKS, read + " 0", read.length() + 1);
            faultBehind(TWO_WORKS, read + " free", read.length() + 1);
            faultBehind(TWO_WORKS, read + ".", read.length());
        }
    }

    @Says(promise = 4, words = "(As written here, without points;")
    static void wordsAreAsWritten() {
        for (String clause : CLAUSES) {
            String word = clause.split(" ")[0];
            String rest = clause.substring(word.length());
            faultBehind(TWO_WORKS, word.substring(1) + rest, 0);
            faultBehind(TWO_WORKS, word.substring(0, word.length() - 1) + rest, 0);
            faultBehind(TWO_WORKS, word + "s" + rest, 0);
            faultBehind(TWO_WORKS, word.substring(0, 1).toUpperCase() + word.substring(1) + rest, 0);
            faultBehind(TWO_WORKS, word.substring(0, word.length() - 1) + "A" + rest, 0);
            faultBehind(TWO_WORKS, word.substring(0, 2) + " " + word.substring(2) + rest, 0);
            faultBehind(TWO_WORKS, word.substring(0, word.length() - 1) + "q" + rest, 0);
        }
        faultOf("x", 0);
        faultOf("monday", 0);
        faultOf("0", 0);
    }

    @Says(promise = 5, words = "calendar: all as at first;")
    static void theClauseCalendarForgetsAllThatIsTold() {
        tell("double 1;short 2;fast 3;" + SIX_WORKS);
        tell(SIX_RULES);
        tell("calendar");
        aNewObjectHasNothing();
        tell(SIX_WORKS + ";calendar;" + "work 3 1 2;first 6");
        is("count(0)", x.count(0), 1);
        is("count(1)", x.count(1), 1);
        is("work(0, 0)", x.work(0, 0), 3);
        is("day(6, 2)", x.day(6, 2), 0);
    }

    @Says(promise = 4, words = "work, feast: a WORK more on DAY D, of WORTH V, that KEEPS K days, a seventh cannot stand there (at its word);")
    static void aSeventhWorkFaultsAtItsWord() {
        faultOf(SIX_WORKS, NONE);
        for (String word : new String[] {"work", "feast"}) {
            String five = SIX_WORKS.substring(0, SIX_WORKS.lastIndexOf(';'));
            faultBehind(five, word + " 0 1 1", NONE);
            faultBehind(five, word + " 0 1 1;" + word + " 0 1 1", word.length() + 7);
            faultBehind(five, word, word.length());
            faultBehind(SIX_WORKS, word + " 0 1 1", 0);
            faultBehind(SIX_WORKS, word, 0);
            faultBehind(SIX_WORKS, word + " 7 100 21", 0);
            faultBehind(SIX_WORKS, "  " + word + " 0 1 1", 2);
            faultBehind(SIX_WORKS, "free;" + word + " 0 1 1", 5);
            faultBehind(SIX_WORKS, "behind 0 1;" + word + " 0 1 1", 11);
            faultBehind(SIX_WORKS, "idle;" + word + " 0 1 1", NONE);
            faultBehind(SIX_WORKS, "calendar;" + word + " 0 1 1", NONE);
            faultOf(SIX_WORKS + ";" + word + " 0 1 1", SIX_WORKS.length() + 1);
        }
    }

    @Says(promise = 4, words = "behind: WORK I is BEHIND J, not I (else a FAULT at J);")
    static void aWorkIsNotBehindItself() {
        for (int i = 0; i < 6; i++) {
            for (int j = 0; j < 6; j++) {
                faultBehind(SIX_WORKS, "behind " + i + " " + j, i == j ? 9 : NONE);
                if (i != j) is("work(i, 4)", x.work(i, 4), j);
            }
        }
        faultBehind(SIX_WORKS, "behind 3  03", 10);
        faultBehind(SIX_WORKS, "behind 00 0", 10);
        faultBehind(TWO_WORKS, "behind 0 1;behind 1 0", NONE);
        faultBehind(TWO_WORKS, "behind 0 1;behind 0 1", NONE);
    }

    @Says(promise = 4, words = "first, beside, ahead: a RULE more, a seventh cannot stand there (at its word)")
    static void aSeventhRuleFaultsAtItsWord() {
        faultOf(SIX_RULES, NONE);
        String five = SIX_RULES.substring(0, SIX_RULES.lastIndexOf(';'));
        for (String rule : new String[] {"first 3", "beside 3 4", "ahead 3 4"}) {
            String word = rule.split(" ")[0];
            faultBehind(five, rule, NONE);
            faultBehind(five, rule + ";" + rule, rule.length() + 1);
            faultBehind(five, word, word.length());
            faultBehind(SIX_RULES, rule, 0);
            faultBehind(SIX_RULES, word, 0);
            faultBehind(SIX_RULES, word + " 7 7", 0);
            faultBehind(SIX_RULES, "idle;" + rule, 5);
            faultBehind(SIX_RULES, "free;" + rule, NONE);
            faultBehind(SIX_RULES, "calendar;" + rule, NONE);
            faultOf(SIX_RULES + ";" + rule, SIX_RULES.length() + 1);
        }
    }

    @Says(promise = 4, words = "E not D (else a FAULT at E);")
    static void aRuleIsOfTwoDays() {
        for (int d = 0; d <= 6; d++) {
            for (int e = 0; e <= 6; e++) {
                faultOf("beside " + d + " " + e, d == e ? 9 : NONE);
                faultOf("ahead " + d + " " + e, d == e ? 8 : NONE);
            }
        }
        faultOf("beside 6   06", 11);
        faultOf("ahead 00 0", 9);
    }

    @Says(promise = 5, words = "free: no RULES; idle: no WORKS;")
    static void freeAndIdleTakeOnlyTheirOwn() {
        anew("double 3;" + TWO_WORKS + ";first 0;first 1");
        tell("free");
        is("count(0)", x.count(0), 2);
        is("count(1)", x.count(1), 0);
        is("orders()", x.orders(), 5040);
        tell("free");
        is("of none: count(1)", x.count(1), 0);
        tell("first 0;idle");
        is("count(0)", x.count(0), 0);
        is("count(1)", x.count(1), 1);
        is("work(0, 0)", x.work(0, 0), UNKNOWN);
        is("day(0, 1)", x.day(0, 1), 0);
        tell("idle");
        is("of none: count(0)", x.count(0), 0);
        is("day(3, 0)", x.day(3, 0), 1);
        tell(SIX_WORKS);
        is("six more: count(0)", x.count(0), 6);
        is("they are behind none: work(1, 4)", x.work(1, 4), NONE);
    }

    @Says(promise = 4, words = "DAYS, WORKS such as there are behind the CLAUSES ahead;")
    static void daysAre0To6() {
        for (int n = 0; n <= 99; n++) {
            int want = n <= 6 ? 0 : 1;
            for (String word : new String[] {"plain", "double", "short", "fast", "first"}) {
                faultOf(word + " " + n, want == 0 ? NONE : word.length() + 1);
            }
            faultOf("work " + n + " 0 0", want == 0 ? NONE : 5);
            faultOf("feast " + n + " 0 0", want == 0 ? NONE : 6);
            int other = n == 0 ? 1 : 0;
            faultOf("beside " + n + " " + other, want == 0 ? NONE : 7);
            faultOf("beside " + other + " " + n, want == 0 ? NONE : 9);
            faultOf("ahead " + n + " " + other, want == 0 ? NONE : 6);
            faultOf("ahead " + other + " " + n, want == 0 ? NONE : 8);
        }
    }

    @Says(promise = 4, words = "DAYS, WORKS such as there are behind the CLAUSES ahead;")
    static void worksAreThoseThatThereAreThen() {
        faultOf("behind 0 1", 7);
        faultBehind("work 0 1 1", "behind 0 1", 9);
        faultBehind("work 0 1 1", "behind 1 0", 7);
        for (int works = 2; works <= 6; works++) {
            String told = "work 0 1 1;".repeat(works - 1) + "work 0 1 1";
            int last = works - 1;
            faultBehind(told, "behind " + last + " 0", NONE);
            faultBehind(told, "behind 0 " + last, NONE);
            faultBehind(told, "behind " + works + " 0", 7);
            faultBehind(told, "behind 0 " + works, 9);
            faultOf(told + ";behind 0 " + last, NONE);
            faultOf(told + ";behind 0 " + works, told.length() + 10);
            faultOf("behind 0 " + last + ";" + told, 7);
            faultBehind(told, "idle;behind 0 1", 12);
            faultBehind(told, "calendar;behind 0 1", 16);
            faultBehind(told, "free;behind 0 1", NONE);
        }
        faultBehind("work 0 1 1", "work 0 1 1;behind 1 0", NONE);
        faultBehind(SIX_WORKS, "idle;work 0 1 1;behind 0 1", 25);
        faultBehind(SIX_WORKS, "behind 99 0", 7);
    }

    @Says(promise = 4, words = "small letters a .. z, numbers of 1 or 2 digits, blanks between.)")
    static void numbersAreOf1Or2Digits() {
        faultOf("first 0", NONE);
        faultOf("first 00", NONE);
        faultOf("first 06", NONE);
        faultOf("first 000", 6);
        faultOf("first 006", 6);
        faultOf("first 07", 6);
        faultOf("work 00 00 00", NONE);
        faultOf("work 06 09 09", NONE);
        faultOf("work 06 09 020", 11);
        faultBehind(TWO_WORKS, "behind 01 00", NONE);
        faultBehind(TWO_WORKS, "behind 001 0", 7);
        faultBehind(TWO_WORKS, "behind 1 000", 9);
        // As a number of 32 or 64 bits these would come round to one that can stand there.
        faultOf("first 4294967296", 6);
        faultOf("first 18446744073709551617", 6);
        faultOf("first " + "0".repeat(154), 6);
    }

    @Says(promise = 4, words = "blanks between.)")
    static void blanksAreOfAnyNumber() {
        faultOf("work  0   1    2", NONE);
        faultOf("free;   idle", NONE);
        faultOf("free   ;idle", NONE);
        faultOf("   free", NONE);
        faultOf("free   ", NONE);
        faultOf("first" + blanks(154) + "6", NONE);
        faultOf("first" + blanks(154) + "7", 159);
        faultOf("work 0 12", 9);
        faultOf("work 0 1 2", NONE);
        faultOf("work 01 2", 9);
        faultOf("first 1 2", 8);
    }

    /** What comes of each of the 256 letters at one place of a text. */
    private static void eachLetter(String ahead, String behind, int digits, int letters, int blank, int semicolon, int else_) {
        for (int letter = 0; letter <= 255; letter++) {
            boolean isDigit = letter >= '0' && letter <= '9';
            boolean isLetter = letter >= 'a' && letter <= 'z';
            int want = isDigit ? digits : isLetter ? letters : letter == ' ' ? blank : letter == ';' ? semicolon : else_;
            x = new MondayDeal();
            put(ahead);
            x.write(letter);
            put(behind);
            is("fault() of [" + ahead + "] " + letter + " [" + behind + "]", x.fault(), want);
        }
    }

    @Says(promise = 4, words = "A FAULT is at the first TOKEN (a row of small letters, a row of digits, any other letter) that cannot stand there")
    static void eachLetterIsOfItsToken() {
        eachLetter("", "", 0, 0, 1, 0, 0);
        eachLetter("free", "", 4, 0, NONE, 5, 4);
        eachLetter("free", "idle", 4, 0, 5, NONE, 4);
        eachLetter("free;", "idle", 5, 5, NONE, 5, 5);
        eachLetter("free ", "", 5, 5, NONE, 6, 5);
        eachLetter("first 10", "", 6, 6, 6, 6, 6);
        eachLetter("first 1", "free", 6, 7, 8, NONE, 7);
        eachLetter("work 1 ", " 2", NONE, 7, 10, 7, 7);
    }

    @Says(promise = 4, words = "A FAULT is at the first TOKEN (a row of small letters, a row of digits, any other letter) that cannot stand there")
    static void theFirstOfSeveralFaults() {
        faultOf("frees;first 9", 0);
        faultOf("free;first 9;x", 11);
        faultOf("work 7 100 21", 5);
        faultOf("work 6 100 21", 7);
        faultOf("work 6 99 21", 10);
        faultOf("beside 7 7", 7);
        faultOf("behind 3 3", 7);
        faultOf("free!!", 4);
        faultOf("free;!!", 5);
    }

    @Says(promise = 4, words = "(a number out of its bounds, of more digits, also), or at the end, if it comes too soon.")
    static void theEndComesTooSoon() {
        faultOf("", 0);
        faultOf("work", 4);
        faultOf("work 1", 6);
        faultOf("work 1 2", 8);
        faultOf("work 1 2 ", 9);
        faultOf("work 1 2 3", NONE);
        faultOf("first 1;", 8);
        // A number out of its bounds is the FAULT, though the end would come too soon behind it.
        faultOf("work 7", 5);
        faultOf("work 0 100", 7);
        faultOf("ahead 123", 6);
    }

    // ---- promise 5

    @Says(promise = 5, words = "THE TEXT's CLAUSES are done, and it is empty then: how many there were.")
    static void oneTo14ClausesAreDone() {
        for (int n = 1; n <= 14; n++) {
            x = new MondayDeal();
            put("idle;".repeat(n - 1) + "idle");
            is("calendar()", x.calendar(), n);
            is("count(8)", x.count(8), 0);
            is("the empty text is not done again", x.calendar(), NOT);
        }
    }

    @Says(promise = 5, words = "NOT: it has a FAULT.")
    static void aTextWithAFaultIsNotDone() {
        is("of the empty text", x.calendar(), NOT);
        tell("short 1;" + PAIR + ";first 3");
        x.deal(0);
        x.ready(0);
        x.keep(0);
        x.bet(0, 6, 5);
        x.known(0, 1, 1);
        String text = "double 1;work 2 2 2;free;idle;calendar;fast 9";
        put(text);
        for (int i = 0; i < 2; i++) is("calendar()", x.calendar(), NOT);
        int[] due = {2, 1, 1, 20, 3, 1, 1, 2, text.length()};
        for (int what = 0; what <= 8; what++) is("count(" + what + ")", x.count(what), due[what]);
        is("day(1, 0)", x.day(1, 0), 2);
        is("day(3, 2)", x.day(3, 2), 0);
        is("work(1, 4)", x.work(1, 4), 0);
        is("fit(2)", x.fit(2), 1);
        is("back(0)", x.back(0), 1);
    }

    @Says(promise = 5, words = "CLAUSES are done in their order.")
    static void theLastClauseIsDoneLast() {
        tell("double 0;short 0;fast 1;plain 1;fast 6;calendar;short 6");
        int[] due = {0, 0, 0, 0, 0, 0, 2};
        for (int d = 0; d <= 6; d++) is("day(d, 0)", x.day(d, 0), due[d]);
        tell("calendar;double 0;short 0;fast 0");
        is("day(0, 0)", x.day(0, 0), 3);
        tell("work 0 1 2;work 0 3 4;work 0 5 6;behind 0 1;behind 0 2");
        is("work(0, 4)", x.work(0, 4), 2);
        tell("first 0;free");
        is("orders()", x.orders(), 5040);
        tell("free;first 0");
        is("orders()", x.orders(), 4320);
        tell("idle;work 4 1 1");
        is("count(0)", x.count(0), 1);
        tell("work 4 1 1;idle");
        is("count(0)", x.count(0), 0);
    }

    @Says(promise = 5, words = "Behind them no WEEK was dealt, nothing is there, earned, done, KNOWN, there are no BETS, nothing is kept or can be undone.")
    static void behindATextAllBeginsAnew() {
        tell(PAIR);
        for (String text : new String[] {"free", "plain 6", "calendar;" + PAIR}) {
            x.deal(0);
            x.deal(0);
            x.ready(0);
            x.keep(0);
            x.keep(1);
            x.bet(0, 1, 5);
            x.known(1, 0, 1);
            tell(text);
            for (int what = 2; what <= 8; what++) is("count(" + what + ")", x.count(what), 0);
            for (int w = 0; w < 2; w++) {
                is("work(w, 5)", x.work(w, 5), NONE);
                is("work(w, 6)", x.work(w, 6), 0);
            }
            is("undo()", x.undo(), NOT);
            is("back(0)", x.back(0), NOT);
            is("back(1)", x.back(1), NOT);
            is("call()", x.call(), 0);
            is("forget()", x.forget(), 0);
            is("fit(0)", x.fit(0), 5040);
            is("fit(2)", x.fit(2), 0);
            ratio("doubt(0)", p -> x.doubt(0, p), 1, 1);
            ratio("mean", p -> x.mean(p), 20, 1);
        }
    }

    // ---- promises 6, 7, 8

    @Says(promise = 6, words = "Of a DAY: KIND (what 0), its WORKS, by bits (1), in how many ORDERS it is the first one (2).")
    static void aDayHasNoWorkOrAllSix() {
        is("none: day(6, 1)", x.day(6, 1), 0);
        tell("work 6 1 1;".repeat(5) + "feast 6 1 1");
        is("all: day(6, 1)", x.day(6, 1), 63);
        is("day(0, 1)", x.day(0, 1), 0);
        tell("idle;work 0 1 1;" + "work 6 1 1;".repeat(4) + "work 0 1 1");
        is("the first and the last: day(0, 1)", x.day(0, 1), 33);
        is("day(6, 1)", x.day(6, 1), 30);
    }

    @Says(promise = 6, words = "in how many ORDERS it is the first one (2).")
    static void aDayIsFirstInNoOrderOrInAll() {
        for (int d = 0; d <= 6; d++) is("day(d, 2)", x.day(d, 2), 720);
        tell("first 0;first 1;first 2;first 3;first 4;first 5");
        for (int d = 0; d <= 6; d++) is("day(d, 2)", x.day(d, 2), d == 6 ? 720 : 0);
        tell("free;" + NO_ORDERS);
        for (int d = 0; d <= 6; d++) is("day(d, 2)", x.day(d, 2), 0);
    }

    @Says(promise = 6, words = "UNKNOWN; OUTSIDE.")
    static void ofADayUnknownComesFirst() {
        for (int d : new int[] {-1, 7, LOW, HIGH}) {
            for (int what : new int[] {LOW, -1, 0, 2, 3, HIGH}) is("day(" + d + ", " + what + ")", x.day(d, what), UNKNOWN);
        }
        for (int what : new int[] {LOW, -1, 3, HIGH}) {
            is("day(0, " + what + ")", x.day(0, what), OUTSIDE);
            is("day(6, " + what + ")", x.day(6, what), OUTSIDE);
        }
    }

    @Says(promise = 7, words = "Of a WORK: DAY (what 0), WORTH (1), KEEPS (2), 1 a FEAST, 0 (3), BEHIND which (4; NONE),"
        + " the age of its PART (5; NONE: it is not there), how often it was done (6).")
    static void anAgeIs0To20() {
        for (int keeps = 0; keeps <= 20; keeps++) {
            anew("fast 0;feast 0 5 " + keeps);
            is("not there", x.work(0, 5), NONE);
            x.ready(0);
            is("made ready", x.work(0, 5), 0);
            for (int week = 1; week <= 3; week++) {
                x.deal(0);
                is("keeps " + keeps + ", week " + week, x.work(0, 5), week * 7 <= keeps ? week * 7 : NONE);
            }
            is("never done", x.work(0, 6), 0);
        }
    }

    @Says(promise = 7, words = "the age of its PART (5; NONE: it is not there), how often it was done (6).")
    static void theOldestAge() {
        // WORK 0 can be done but once, as WORK 1's PART is MADE READY but once.
        tell("work 0 5 20;fast 1;feast 1 5 20;behind 0 1");
        x.ready(1);
        is("deal(0)", x.deal(0), 5);
        is("made on the first day", x.work(0, 5), 6);
        x.deal(0);
        is("a week later", x.work(0, 5), 13);
        x.deal(0);
        is("as old as it can be", x.work(0, 5), 20);
        x.deal(0);
        is("it is not there", x.work(0, 5), NONE);
        is("done once", x.work(0, 6), 1);
        is("never done", x.work(1, 6), 0);
    }

    @Says(promise = 7, words = "UNKNOWN; OUTSIDE.")
    static void ofAWorkUnknownComesFirst() {
        for (int what : new int[] {LOW, -1, 0, 6, 7, HIGH}) is("work(0, " + what + ")", x.work(0, what), UNKNOWN);
        tell(PAIR);
        for (int w : new int[] {-1, 2, LOW, HIGH}) {
            for (int what : new int[] {LOW, -1, 0, 6, 7, HIGH}) is("work(" + w + ", " + what + ")", x.work(w, what), UNKNOWN);
        }
        for (int what : new int[] {LOW, -1, 7, HIGH}) {
            is("work(0, " + what + ")", x.work(0, what), OUTSIDE);
            is("work(1, " + what + ")", x.work(1, what), OUTSIDE);
        }
    }

    @Says(promise = 8, words = "A DAY taken as a KIND (0 .. 4, as they are over one another): what a WORTH of 15 earns on it.")
    static void aDayIsTakenAsEachKindOverIt() {
        tell("double 1;short 2;fast 3;double 6");
        int[][] due = {
            {15, 15, NOT, NOT, NOT}, {30, 30, 30, NOT, NOT}, {7, 7, NOT, 7, NOT}, {15, NOT, NOT, NOT, 15},
            {15, 15, NOT, NOT, NOT}, {15, 15, NOT, NOT, NOT}, {30, 30, 30, NOT, NOT}
        };
        for (int d = 0; d <= 6; d++) {
            for (int kind = 0; kind <= 4; kind++) is("as(" + d + ", " + kind + ")", x.as(d, kind), due[d][kind]);
        }
    }

    @Says(promise = 8, words = "KINDS of DAYS are over one another: DAY (0); PLAIN (1) under it; DOUBLE (2) is PLAIN; SHORT (3) is PLAIN; FAST (4) is a DAY.")
    static void aFastIsNotPlain() {
        tell("fast 0;double 1;short 2");
        is("a FAST is a DAY", x.as(0, 0), 15);
        is("a FAST is not PLAIN", x.as(0, 1), NOT);
        is("a DOUBLE is PLAIN", x.as(1, 1), 30);
        is("a DOUBLE is not SHORT", x.as(1, 3), NOT);
        is("a SHORT is PLAIN", x.as(2, 1), 7);
        is("a SHORT is not DOUBLE", x.as(2, 2), NOT);
        is("a PLAIN one is not DOUBLE", x.as(3, 2), NOT);
        is("a PLAIN one is not FAST", x.as(3, 4), NOT);
    }

    @Says(promise = 8, words = "UNKNOWN; OUTSIDE; NOT: it is none such.")
    static void ofAKindUnknownComesFirstThenOutside() {
        for (int d : new int[] {-1, 7, LOW, HIGH}) {
            for (int kind : new int[] {LOW, -1, 0, 4, 5, HIGH}) is("as(" + d + ", " + kind + ")", x.as(d, kind), UNKNOWN);
        }
        for (int kind : new int[] {LOW, -1, 5, HIGH}) {
            is("as(0, " + kind + ")", x.as(0, kind), OUTSIDE);
            is("as(6, " + kind + ")", x.as(6, kind), OUTSIDE);
        }
        is("as(0, 4)", x.as(0, 4), NOT);
    }
}
