import java.io.IOException;

/**
 * The document from its first line on: the sentences that name no boundary case, and so stand in none of the
 * *EdgesTest programs, each with ordinary calls.
 */
public final class ReadThroughTest {
    private static final Check CHECK = new Check("ReadThroughTest");
    private static final String FULL = "abcdefghabcdefghabcd";

    public static void main(String[] args) throws IOException {
        Sentences s = new Sentences(CHECK, args);
        s.holds("Patterns that are searched for in time that grows with the text alone", ReadThroughTest::timeOfSearches);
        s.holds("a program of small instructions is made of a pattern", ReadThroughTest::programOfPattern);
        s.holds("threads in lists, a search with marks, an automaton whose states are made when they are needed, and a single "
            + "thread where a pattern lets that be", ReadThroughTest::fourMatchers);
        s.holds("A sequence is a row of PIECES", ReadThroughTest::rowsOfPieces);
        s.holds("; ^ and $;", ReadThroughTest::firstAndLastAreAtoms);
        s.holds("0 LETTER x, 1 ANY, 2 SPLIT x y, 3 GO x, 4 SAVE x, 5 FIRST, 6 LAST, 7 FOUND", ReadThroughTest::kinds);
        s.holds("It is written as one reads the pattern", ReadThroughTest::inReadingOrder);
        s.holds("A letter is LETTER with it (0 for a), . ANY, ^ FIRST, $ LAST.", ReadThroughTest::atoms);
        s.holds("Group k: SAVE 2 k, its choice, SAVE 2 k + 1.", ReadThroughTest::groups);
        s.holds("a SPLIT to the next instruction and (y) to the beginning", ReadThroughTest::choices);
        s.holds("e*: that, e, GO to the SPLIT.", ReadThroughTest::stars);
        s.holds("e+: e, a SPLIT to e's beginning and behind itself.", ReadThroughTest::pluses);
        s.holds("GO goes on at x", ReadThroughTest::goes);
        s.holds("LETTERs, ANYs and FOUND that are come to stand in a LIST, in this order, with their slots.",
            ReadThroughTest::orderOfLists);
        s.holds("THE MATCH (leftmost, by priority)", ReadThroughTest::leftmost);
        s.holds("at place 0 instruction 0 is followed. Then at each place: the list is gone through; a LETTER or ANY for which "
            + "the text's letter there is right has its next instruction followed at the next place", ReadThroughTest::steps);
        s.holds("0 LISTS: just so.", ReadThroughTest::justSo);
        s.holds("one thread is followed; at a LETTER or ANY that is right it goes on, at one that is not, or",
            ReadThroughTest::oneThread);
        s.holds("the latest SPLIT's other way is tried", ReadThroughTest::otherWay);
        s.holds("From state and letter the next state comes", ReadThroughTest::nextStates);
        s.holds("then instruction 0 is followed, too", ReadThroughTest::openStates);
        s.holds("States that were made are KEPT, with where they lead by each letter", ReadThroughTest::keptStates);
        s.holds("then LISTS, from each place on till it is so, but only with instruction 0 followed at that place",
            ReadThroughTest::matchOfAutomaton);
        s.holds("It goes on with the one that is right, as LISTS does", ReadThroughTest::singleGoesOn);
        s.holds("Of an instruction: its kind", ReadThroughTest::whatIsAsked);
        s.holds("How many matches there are behind one another", ReadThroughTest::behindOneAnother);
        s.holds("How the state is held inside the object is free", ReadThroughTest::objectsAreApart);
        s.holds("nothing about an object after its 512th call", ReadThroughTest::laterCallsEnd);
        CHECK.end();
    }

    private static void program(String pattern, String want) {
        LinearSearch x = new LinearSearch(0);
        Check.typeAll(x, pattern);
        int size = x.compile();
        CHECK.same("program of '" + pattern + "'", Check.listing(x, size), want);
    }

    private static void match(int matcher, String pattern, String text, String slots, int work) {
        LinearSearch x = Check.ready(15, pattern, text);
        String call = "search(" + matcher + ") for '" + pattern + "' in '" + text + "'";
        x.search(matcher);
        CHECK.same(call + ", slots", Check.slots(x), slots);
        CHECK.same(call + ", work", x.work(), work);
        CHECK.same(call + ", matcher", x.matcher(), matcher);
    }

    /**
     * A search that went back without marks would need more than a thousand million steps for the longest text. With
     * them all instructions but FOUND are marked at each place; at place 0 the three GOs behind a letter are not, either.
     */
    private static void timeOfSearches() {
        for (int n = 0; n <= 20; n++) {
            String text = "a".repeat(n);
            match(0, "(a*)*(a*)*(a*)*h", text, "- - - -", 4 * (n + 1));
            match(1, "(a*)*(a*)*(a*)*h", text, "- - - -", 19 + 22 * n);
            match(2, "(a*)*(a*)*(a*)*h", text, "- - - -", 1);
        }
    }

    private static void programOfPattern() {
        LinearSearch x = new LinearSearch(0);
        Check.typeAll(x, "ab");
        CHECK.fails("no program without compile()", IndexOutOfBoundsException.class, () -> x.instruction(0, 0));
        CHECK.same("compile()", x.compile(), 3);
        CHECK.same("the program", Check.listing(x, 3), "LETTER 0 0, LETTER 1 0, FOUND 0 0");
        Check.typeAll(x, "c");
        CHECK.same("the program stays till compile()", Check.listing(x, 3), "LETTER 0 0, LETTER 1 0, FOUND 0 0");
        CHECK.same("compile() again", x.compile(), 2);
        CHECK.same("the new program", Check.listing(x, 2), "LETTER 2 0, FOUND 0 0");
        CHECK.fails("the new program's end", IndexOutOfBoundsException.class, () -> x.instruction(2, 0));
    }

    private static void fourMatchers() {
        LinearSearch x = Check.ready(0, "^(a|b)*(c)d?", "abbcdd");
        int[] works = {15, 33, 4, 6};
        for (int matcher = 0; matcher <= 3; matcher++) {
            CHECK.same("begin by " + matcher, x.search(matcher), 0);
            CHECK.same("slots by " + matcher, Check.slots(x), "0-5 2-3 3-4 -");
            CHECK.same("matcher by " + matcher, x.matcher(), matcher);
            CHECK.same("work by " + matcher, x.work(), works[matcher]);
        }
    }

    private static void rowsOfPieces() {
        program("ab?c", "LETTER 0 0, SPLIT 2 3, LETTER 1 0, LETTER 2 0, FOUND 0 0");
        program("a?b??c", "SPLIT 1 2, LETTER 0 0, SPLIT 4 3, LETTER 1 0, LETTER 2 0, FOUND 0 0");
        match(0, "ab?c", "habc", "1-4 - - -", 8);
        match(1, "ab?c", "hac", "1-3 - - -", 6);
    }

    private static void firstAndLastAreAtoms() {
        program("^*", "SPLIT 1 3, FIRST 0 0, GO 0 0, FOUND 0 0");
        program("$?", "SPLIT 1 2, LAST 0 0, FOUND 0 0");
        program("(^|$)+", "SAVE 2 0, SPLIT 2 4, FIRST 0 0, GO 5 0, LAST 0 0, SAVE 3 0, SPLIT 0 7, FOUND 0 0");
        match(0, "(^|a)b", "bab", "0-1 0-0 - -", 3);
        match(0, "b($|a)", "bab", "0-2 1-2 - -", 4);
    }

    private static void kinds() {
        LinearSearch x = new LinearSearch(0);
        Check.typeAll(x, "^(c|.)*$");
        int[][] want = {{5, 0, 0}, {2, 2, 9}, {4, 2, 0}, {2, 4, 6}, {0, 2, 0}, {3, 7, 0}, {1, 0, 0}, {4, 3, 0}, {3, 1, 0}, {6, 0, 0},
            {7, 0, 0}};
        CHECK.same("compile()", x.compile(), want.length);
        for (int i = 0; i < want.length; i++) {
            for (int what = 0; what <= 2; what++) {
                CHECK.same("instruction(" + i + ", " + what + ")", x.instruction(i, what), want[i][what]);
            }
        }
    }

    private static void inReadingOrder() {
        program("^a.(b)$", "FIRST 0 0, LETTER 0 0, ANY 0 0, SAVE 2 0, LETTER 1 0, SAVE 3 0, LAST 0 0, FOUND 0 0");
        program("h*g+f?", "SPLIT 1 3, LETTER 7 0, GO 0 0, LETTER 6 0, SPLIT 3 5, SPLIT 6 7, LETTER 5 0, FOUND 0 0");
    }

    private static void atoms() {
        program("abcdefgh", "LETTER 0 0, LETTER 1 0, LETTER 2 0, LETTER 3 0, LETTER 4 0, LETTER 5 0, LETTER 6 0, LETTER 7 0, "
            + "FOUND 0 0");
        program(".^$", "ANY 0 0, FIRST 0 0, LAST 0 0, FOUND 0 0");
    }

    private static void groups() {
        program("(a)(b)(c)", "SAVE 2 0, LETTER 0 0, SAVE 3 0, SAVE 4 0, LETTER 1 0, SAVE 5 0, SAVE 6 0, LETTER 2 0, SAVE 7 0, "
            + "FOUND 0 0");
        program("((a)b)", "SAVE 2 0, SAVE 4 0, LETTER 0 0, SAVE 5 0, LETTER 1 0, SAVE 3 0, FOUND 0 0");
        program("(a|b)", "SAVE 2 0, SPLIT 2 4, LETTER 0 0, GO 5 0, LETTER 1 0, SAVE 3 0, FOUND 0 0");
    }

    private static void choices() {
        program("a|b", "SPLIT 1 3, LETTER 0 0, GO 4 0, LETTER 1 0, FOUND 0 0");
        program("a|b|c", "SPLIT 1 3, LETTER 0 0, GO 7 0, SPLIT 4 6, LETTER 1 0, GO 7 0, LETTER 2 0, FOUND 0 0");
        program("ab*|c?d", "SPLIT 1 6, LETTER 0 0, SPLIT 3 5, LETTER 1 0, GO 2 0, GO 9 0, SPLIT 7 8, LETTER 2 0, LETTER 3 0, "
            + "FOUND 0 0");
    }

    private static void stars() {
        program("a*", "SPLIT 1 3, LETTER 0 0, GO 0 0, FOUND 0 0");
        program("ba*c", "LETTER 1 0, SPLIT 2 4, LETTER 0 0, GO 1 0, LETTER 2 0, FOUND 0 0");
        program("(a*b)*", "SPLIT 1 8, SAVE 2 0, SPLIT 3 5, LETTER 0 0, GO 2 0, LETTER 1 0, SAVE 3 0, GO 0 0, FOUND 0 0");
    }

    private static void pluses() {
        program("a+", "LETTER 0 0, SPLIT 0 2, FOUND 0 0");
        program("b(ac)+d", "LETTER 1 0, SAVE 2 0, LETTER 0 0, LETTER 2 0, SAVE 3 0, SPLIT 1 6, LETTER 3 0, FOUND 0 0");
        program("(a+)*", "SPLIT 1 6, SAVE 2 0, LETTER 0 0, SPLIT 2 4, SAVE 3 0, GO 0 0, FOUND 0 0");
    }

    private static void goes() {
        match(0, "(a|b)c", "ac", "0-2 0-1 - -", 6);
        match(0, "(a|b)c", "abc", "1-3 1-2 - -", 9);
        match(1, "(a|b|d)c", "ac", "0-2 0-1 - -", 7);
    }

    private static void orderOfLists() {
        match(0, "a|.|", "", "0-0 - - -", 3);
        match(0, "a||.", "", "0-0 - - -", 2);
        match(0, "|a|.", "", "0-0 - - -", 1);
        match(0, "a|.|", "b", "0-1 - - -", 4);
        match(0, "a||.", "b", "0-0 - - -", 2);
        match(0, "(a)|(.)|a", "a", "0-1 0-1 - -", 4);
        match(0, "a|(a)|(.)", "a", "0-1 - - -", 4);
        match(0, "(b)|(.)|a", "a", "0-1 - 0-1 -", 4);
    }

    private static void leftmost() {
        match(0, "c|bcd|abh", "abcd", "1-4 - - -", 15);
        match(1, "bcd|b", "abcd", "1-4 - - -", 9);
        match(2, "b|bcd", "abcd", "1-2 - - -", 3);
    }

    private static void steps() {
        match(0, "a.c", "adc", "0-3 - - -", 6);
        match(0, "a.c", "add", "- - - -", 6);
        match(0, "ab", "ab", "0-2 - - -", 4);
        match(0, "a", "bba", "2-3 - - -", 4);
    }

    private static void justSo() {
        LinearSearch x = Check.ready(0, "(b)(c)?", "abca");
        CHECK.same("search(0)", x.search(0), 1);
        CHECK.same("slots", Check.slots(x), "1-3 1-2 2-3 -");
        CHECK.same("work", x.work(), 5);
        CHECK.same("matcher", x.matcher(), 0);
        CHECK.same("no states", x.states(), 0);
    }

    private static void oneThread() {
        match(1, "abc", "abc", "0-3 - - -", 4);
        match(1, "a.c", "abc", "0-3 - - -", 4);
        match(1, "abd", "abc", "- - - -", 6);
        match(1, "bc", "abc", "1-3 - - -", 4);
    }

    private static void otherWay() {
        match(1, "ab|ac", "ac", "0-2 - - -", 6);
        match(1, "(a|b)?(a|c)d", "acd", "0-3 0-1 1-2 -", 13);
        match(1, "(a)?(a)d", "ad", "0-2 - 0-1 -", 11);
        match(1, "a*ab", "aab", "0-3 - - -", 12);
    }

    private static void nextStates() {
        match(2, "abc", "abc", "0-3 - - -", 4);
        match(2, "abc", "abab", "- - - -", 3);
        match(2, "a.b", "acb", "0-3 - - -", 4);
    }

    /** As long as a state is open, each next one has what a match that begins there needs. */
    private static void openStates() {
        LinearSearch x = Check.ready(15, "ab", "ccab");
        CHECK.same("search(2)", x.search(2), 2);
        CHECK.same("the end", x.slot(0, true), 4);
        CHECK.same("the first one leads to itself", x.states(), 3);
        Check.feedAll(x, "aaab");
        CHECK.same("search(2) in aaab", x.search(2), 2);
        CHECK.same("nothing new", x.work(), 0);
    }

    private static void keptStates() {
        LinearSearch x = Check.ready(15, "cd", FULL);
        CHECK.same("search(2)", x.search(2), 2);
        CHECK.same("made", x.work(), 4);
        CHECK.same("kept", x.states(), 4);
        for (char c = 'a'; c <= 'h'; c++) {
            Check.feedAll(x, "c" + c + "cd");
            CHECK.same("search(2) with " + c, x.search(2), c == 'd' ? 0 : 2);
            CHECK.same("states with " + c, x.states(), 4);
            CHECK.same("made with " + c, x.work(), 0);
        }
        CHECK.same("no flush", x.flushes(), 0);
    }

    private static void matchOfAutomaton() {
        match(2, "(b)(c)|(d)", "aabcd", "2-4 2-3 3-4 -", 4);
        match(2, "(a*)b", "caab", "1-4 1-3 - -", 2);
        match(2, "(a|ab)(c|bcd)(d*)", "habcd", "1-5 1-2 2-5 5-5", 5);
    }

    private static void singleGoesOn() {
        match(3, "^a(b|c)d*", "acddb", "0-4 1-2 - -", 5);
        match(3, "^(.)(.)$", "ab", "0-2 0-1 1-2 -", 3);
        match(3, "^(a|b)*?c", "abca", "0-3 1-2 - -", 4);
        match(3, "^a*?", "aaa", "0-0 - - -", 1);
    }

    private static void whatIsAsked() {
        LinearSearch x = Check.compiled(0, "h|.");
        CHECK.same("kind", x.instruction(0, 0), 2);
        CHECK.same("x", x.instruction(0, 1), 1);
        CHECK.same("y", x.instruction(0, 2), 3);
        CHECK.same("the letter", x.instruction(1, 1), 7);
        CHECK.same("GO's x", x.instruction(2, 1), 4);
    }

    private static void breaks(String pattern, String text, int want) {
        CHECK.same("breaks() of '" + pattern + "' in '" + text + "'", Check.ready(0, pattern, text).breaks(), want);
    }

    private static void behindOneAnother() {
        breaks("ab", "abcab", 2);
        breaks("a|b", "aabb", 4);
        breaks("a+", "aabaa", 2);
        breaks("aa", "aaaaa", 2);
        breaks("c", "aabb", 0);
        breaks("a*?b", "aabab", 2);
    }

    private static void objectsAreApart() {
        LinearSearch x = Check.ready(0, "(a)b", "cab");
        LinearSearch y = Check.ready(7, "c", "hhc");
        CHECK.same("x.search(2)", x.search(2), 1);
        CHECK.same("y.search(1)", y.search(1), 2);
        CHECK.same("x's slots", Check.slots(x), "1-3 1-2 - -");
        CHECK.same("x's matcher", x.matcher(), 2);
        CHECK.same("x's states", x.states(), 3);
        CHECK.same("y's slots", Check.slots(y), "2-3 - - -");
        CHECK.same("y's matcher", y.matcher(), 1);
        CHECK.same("y's states", y.states(), 0);
    }

    /** What they answer is free, but by rule 7 of LANGUAGE.md none may throw by itself, or fail to end. */
    private static void laterCallsEnd() {
        LinearSearch x = Check.ready(0, "(a|b)*a(a|b)(a|b)", "abbabaabbbaababbabaa");
        for (int i = 0; i < 20_000; i++) {
            x.search(i % 3);
            x.breaks();
        }
        CHECK.same("work is counted for each search alone", x.work() > 0, true);
    }
}
