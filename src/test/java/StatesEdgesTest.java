import java.io.IOException;

/** Boundary cases of the automaton, sentence by sentence: MATCHERS, 2 STATES, and promises 1, 13 and 14. */
public final class StatesEdgesTest {
    private static final Check CHECK = new Check("StatesEdgesTest");
    private static final String FULL = "abcdefghabcdefghabcd";

    public static void main(String[] args) throws IOException {
        Sentences s = new Sentences(CHECK, args);
        s.holds("the limit of states is 3 and the lowest four bits of limit", StatesEdgesTest::limits);
        s.holds("a list of LETTERs, ANYs, LASTs and FOUND in their order (up to FOUND)", StatesEdgesTest::upToFound);
        s.holds("where LAST stands in it instead of being gone on from", StatesEdgesTest::lastStands);
        s.holds("and whether instruction 0 was followed for it (OPEN)", StatesEdgesTest::openOrNot);
        s.holds("The first state is that of place 0, open.", StatesEdgesTest::firstState);
        s.holds("what the letter is right for is followed in order (at a place that is not 0)", StatesEdgesTest::laterPlaces);
        s.holds("it is open if the state is and has no FOUND", StatesEdgesTest::closedBehindFound);
        s.holds("what is known already is not made anew", StatesEdgesTest::known);
        s.holds("If there would be more than the LIMIT, all are thrown away first (a FLUSH), and the new one is kept alone",
            StatesEdgesTest::overTheLimit);
        s.holds("(the first one, when it is needed again, is made again)", StatesEdgesTest::firstOneAgain);
        s.holds("If a search comes to its third flush, it gives up with no state kept, and LISTS does it",
            StatesEdgesTest::thirdFlush);
        s.holds("(MATCHER 0 did it then)", StatesEdgesTest::matcherOfGivenUp);
        s.holds("Each place at which the state has FOUND is an end so far", StatesEdgesTest::ends);
        s.holds("at the text's end LASTs are followed, too, and FOUND behind them is one", StatesEdgesTest::lastsAtTheEnd);
        s.holds("It is over when a state that is not open has nothing in it, and at the text's end.", StatesEdgesTest::over);
        s.holds("The last end is the match's", StatesEdgesTest::lastEnd);
        s.holds("finds the match that begins at the least place and ends there", StatesEdgesTest::leastPlace);
        s.holds("Its work: how many states were made in this search (that gave up: as LISTS).", StatesEdgesTest::workOfStates);
        s.holds("How many states are kept.", StatesEdgesTest::keptStates);
        s.holds("How many flushes there were since a pattern was compiled last.", StatesEdgesTest::countedFlushes);
        CHECK.end();
    }

    private static void searched(String when, LinearSearch x, int begin, int work, int states, int flushes) {
        CHECK.same(when + ": search(2)", x.search(2), begin);
        CHECK.same(when + ": work()", x.work(), work);
        CHECK.same(when + ": states()", x.states(), states);
        CHECK.same(when + ": flushes()", x.flushes(), flushes);
    }

    private static void made(String pattern, String text, int want) {
        LinearSearch x = Check.ready(15, pattern, text);
        x.search(2);
        CHECK.same("states made for '" + pattern + "' in '" + text + "'", x.work(), want);
        CHECK.same("states kept for '" + pattern + "' in '" + text + "'", x.states(), want);
    }

    private static void match(String pattern, String text, String want) {
        for (int limit : new int[] {0, 15}) {
            LinearSearch x = Check.ready(limit, pattern, text);
            x.search(2);
            CHECK.same("'" + pattern + "' in '" + text + "'", Check.slots(x), want);
        }
    }

    /** As many a in pattern and text as n make n + 1 states. */
    private static LinearSearch row(int limit, int n) {
        return Check.ready(limit, "a".repeat(n), "a".repeat(n));
    }

    private static void limits() {
        for (int bits = 0; bits <= 15; bits++) {
            int limit = 3 + bits;
            for (int more : new int[] {0, 16, -16, 1 << 20, Integer.MIN_VALUE, -1 << 4, Integer.MAX_VALUE - 15}) {
                String when = "LinearSearch(" + (bits + more) + ")";
                searched(when + ", as many as the limit", row(bits + more, limit - 1), 0, limit, limit, 0);
                searched(when + ", 1 more than the limit", row(bits + more, limit), 0, limit + 1, 1, 1);
            }
        }
        searched("LinearSearch(-1), as many as 18", row(-1, 17), 0, 18, 18, 0);
        searched("LinearSearch(MAX_VALUE), 1 more than 18", row(Integer.MAX_VALUE, 18), 0, 19, 1, 1);
    }

    private static void upToFound() {
        LinearSearch x = Check.ready(15, "a(|b)|c(|d)", "a");
        searched("behind a", x, 0, 2, 2, 0);
        Check.feedAll(x, "c");
        searched("behind c, the same up to FOUND", x, 0, 0, 2, 0);
        LinearSearch y = Check.ready(15, "a(b|)|c(d|)", "a");
        searched("behind a", y, 0, 2, 2, 0);
        Check.feedAll(y, "c");
        searched("behind c, not the same before FOUND", y, 0, 1, 3, 0);
        made("a$", "a", 2);
    }

    /** Behind a and behind b the two states differ by their LASTs alone, at the text's end and before it. */
    private static void lastStands() {
        made("a$|b$", "a", 2);
        made("a$|b$", "ab", 3);
        made("a$|b$", "abc", 3);
        made("(a|b)$", "ab", 2);
        made("$a|$b", "c", 1);
        made("$$", "c", 1);
    }

    private static void openOrNot() {
        made("a*", "a", 2);
        made("a*", "aa", 2);
        made("a*", "", 1);
        made("a|b", "c", 1);
    }

    private static void firstState() {
        made("", "", 1);
        made("^a|b", "", 1);
        made("^a|b", "c", 2);
        made("a|b", "cc", 1);
    }

    private static void laterPlaces() {
        made("^b", "a", 2);
        made("^b", "aaa", 2);
        made("a^b", "aa", 1);
        match("^a", "ba", "- - - -");
        match("a^|b", "ab", "1-2 - - -");
    }

    private static void closedBehindFound() {
        made("a", "a", 2);
        made("a", "aa", 3);
        made("a", "aaaa", 3);
        made("", "a", 2);
        match("a", "baa", "1-2 - - -");
    }

    private static void known() {
        LinearSearch x = Check.ready(5, "ab", "aab");
        searched("new ones", x, 1, 3, 3, 0);
        searched("known ones", x, 1, 0, 3, 0);
        Check.feedAll(x, "cab");
        searched("known ones in another text", x, 1, 0, 3, 0);
        Check.feedAll(x, "aaba");
        searched("one more", x, 1, 1, 4, 0);
        x.clear();
        searched("the first one alone", x, -1, 0, 4, 0);
    }

    private static void overTheLimit() {
        searched("3 states of 3", row(0, 2), 0, 3, 3, 0);
        searched("4 states of 3", row(0, 3), 0, 4, 1, 1);
        searched("5 states of 3", row(0, 4), 0, 5, 2, 1);
        searched("6 states of 3", row(0, 5), 0, 6, 3, 1);
        searched("7 states of 3", row(0, 6), 0, 7, 1, 2);
        searched("18 states of 18", row(15, 17), 0, 18, 18, 0);
        searched("19 states of 18", row(15, 18), 0, 19, 1, 1);
        LinearSearch x = row(0, 2);
        x.search(2);
        searched("a full row, and nothing new", x, 0, 0, 3, 0);
    }

    /** The states of abc are [a], [b a], [c a] and [FOUND]; what is kept at each search's beginning differs. */
    private static void firstOneAgain() {
        LinearSearch x = Check.ready(0, "abc", "abc");
        searched("none is kept", x, 0, 4, 1, 1);
        searched("[FOUND] is kept", x, 0, 4, 2, 2);
        searched("[c a] and [FOUND] are kept", x, 0, 4, 3, 3);
        searched("all but the first one are kept, which makes a flush", x, 0, 4, 1, 5);
        CHECK.same("flushes of earlier searches do not count", x.matcher(), 2);
        x.clear();
        searched("the empty text needs the first one", x, -1, 1, 2, 5);
        searched("and then has it", x, -1, 0, 2, 5);
    }

    private static void thirdFlush() {
        searched("9 states of 3: two flushes", row(0, 8), 0, 9, 3, 2);
        LinearSearch x = row(0, 9);
        searched("10 states of 3: the third flush", x, 0, 46, 0, 3);
        CHECK.same("the match", Check.slots(x), "0-9 - - -");
        searched("and again, from no state on", x, 0, 46, 0, 6);
        Check.feedAll(x, "a".repeat(8));
        searched("a letter less", x, -1, 9, 3, 8);
        LinearSearch y = Check.ready(0, "a".repeat(9), "a".repeat(8));
        searched("9 states of 3, no match", y, -1, 9, 3, 2);
        LinearSearch z = Check.ready(0, "a".repeat(10), "a".repeat(9));
        searched("10 states of 3, no match", z, -1, 55, 0, 3);
        CHECK.same("no match", Check.slots(z), "- - - -");
    }

    private static void matcherOfGivenUp() {
        LinearSearch x = row(0, 8);
        x.search(2);
        CHECK.same("matcher() behind two flushes", x.matcher(), 2);
        LinearSearch y = row(0, 9);
        y.search(2);
        CHECK.same("matcher() behind the third one", y.matcher(), 0);
        LinearSearch z = row(0, 20);
        z.search(4);
        CHECK.same("matcher() behind the third one, planned", z.matcher(), 0);
    }

    private static void ends() {
        match("", "", "0-0 - - -");
        match("", "abc", "0-0 - - -");
        match("a*", "aab", "0-2 - - -");
        match("a*b?", "aab", "0-3 - - -");
        match(".*", FULL, "0-20 - - -");
        match("d", "abc", "- - - -");
    }

    private static void lastsAtTheEnd() {
        match("$", "", "0-0 - - -");
        match("$", "ab", "2-2 - - -");
        match("a$", "ab", "- - - -");
        match("a$", "ba", "1-2 - - -");
        match("a$$", "a", "0-1 - - -");
        match("$^", "", "0-0 - - -");
        match("$^", "a", "- - - -");
        match("a($|b)", "a", "0-1 1-1 - -");
        match("$a", "a", "- - - -");
        match("($|a)*b", "ab", "0-2 0-1 - -");
        match("d$", FULL, "19-20 - - -");
        made("$", "ab", 1);
    }

    private static void over() {
        made("a", "abcdefgh", 3);
        made("a", "abb", 3);
        made("^a", "bcdefgh", 2);
        made("^a", "abcdefgh", 3);
        made("a*", "baaaaa", 2);
        match("a", "abcdefgha", "0-1 - - -");
    }

    private static void lastEnd() {
        match("a(bb)*", "abbbb", "0-5 3-5 - -");
        match("a(bb)*", "abbb", "0-3 1-3 - -");
        match("a(bbb)?", "abb", "0-1 - - -");
        match("(a|ab)(c|bcd)?", "abcd", "0-4 0-1 1-4 -");
        match("a(b$)?", "abc", "0-1 - - -");
        match("a(b$)?", "ab", "0-2 1-2 - -");
    }

    private static void leastPlace() {
        match("a*b", "caab", "1-4 - - -");
        match("b|aab", "caab", "1-4 - - -");
        match("b|ab", "caab", "2-4 - - -");
        match("^b|b", "aab", "2-3 - - -");
        match("$", FULL, "20-20 - - -");
    }

    private static void workOfStates() {
        made("", "", 1);
        searched("with a flush", row(0, 3), 0, 4, 1, 1);
        searched("with two flushes", row(0, 6), 0, 7, 1, 2);
        LinearSearch x = row(0, 9);
        x.search(2);
        int givenUp = x.work();
        x.search(0);
        CHECK.same("given up", givenUp, x.work());
        LinearSearch y = row(0, 2);
        y.search(2);
        y.search(2);
        CHECK.same("nothing made", y.work(), 0);
    }

    private static void keptStates() {
        CHECK.same("of a new object", new LinearSearch(0).states(), 0);
        LinearSearch x = row(15, 17);
        CHECK.same("before a search", x.states(), 0);
        x.search(0);
        x.search(1);
        x.breaks();
        CHECK.same("behind other matchers", x.states(), 0);
        x.search(2);
        CHECK.same("behind a search", x.states(), 18);
        x.feed('b');
        x.clear();
        Check.typeAll(x, "(");
        Check.outcome(x::compile);
        x.search(0);
        Check.outcome(() -> x.search(3));
        Check.outcome(() -> x.search(5));
        CHECK.same("behind all that makes no state", x.states(), 18);
        x.wipe();
        x.compile();
        CHECK.same("behind compile()", x.states(), 0);
    }

    private static void countedFlushes() {
        CHECK.same("of a new object", new LinearSearch(0).flushes(), 0);
        LinearSearch x = row(0, 3);
        CHECK.same("before a search", x.flushes(), 0);
        x.search(2);
        CHECK.same("behind a search", x.flushes(), 1);
        x.search(0);
        x.search(1);
        x.breaks();
        x.feed('b');
        x.clear();
        Check.typeAll(x, "(");
        Check.outcome(x::compile);
        CHECK.same("behind all that makes no state", x.flushes(), 1);
        x.wipe();
        x.compile();
        CHECK.same("behind compile(), which makes none", x.flushes(), 0);
    }
}
