import java.io.IOException;

/** Boundary cases of counting matches behind one another, sentence by sentence: promise 15. */
public final class BreaksEdgesTest {
    private static final Check CHECK = new Check("BreaksEdgesTest");
    private static final String FULL = "abcdefghabcdefghabcd";

    public static void main(String[] args) throws IOException {
        Sentences s = new Sentences(CHECK, args);
        s.holds("LISTS search with instruction 0 followed from place q on, at first 0", BreaksEdgesTest::fromPlaces);
        s.holds("an empty match that begins where the one before has ended is not counted", BreaksEdgesTest::emptyBehindOne);
        s.holds("then q is the match's end, 1 more if it is empty", BreaksEdgesTest::goesOn);
        s.holds("till there is none, or q is behind the text's end", BreaksEdgesTest::emptyAndFull);
        s.holds("The latest search is as it was.", BreaksEdgesTest::leavesTheSearch);
        s.holds("IllegalStateException if nothing is compiled.", BreaksEdgesTest::nothingCompiled);
        CHECK.end();
    }

    private static void count(String pattern, String text, int want) {
        CHECK.same("breaks() of '" + pattern + "' in '" + text + "'", Check.ready(0, pattern, text).breaks(), want);
    }

    private static void fromPlaces() {
        count("a", "abaa", 3);
        count("^a", "aaa", 1);
        count("^", "aaa", 1);
        count("^|b", "abb", 3);
        count("b|ab", "abab", 2);
        count("a$|b", "aba", 2);
    }

    private static void emptyBehindOne() {
        count("a*", "aba", 2);
        count("a|", "aba", 2);
        count("a|$", "aaa", 3);
        count("a*", "aabaa", 2);
        count("a*", "bb", 3);
        count("b|$", "ba", 2);
        count("a*?", "aba", 4);
        count("a", "aa", 2);
        count("", "", 1);
    }

    private static void goesOn() {
        count("aa", "aaaaa", 2);
        count("a+", "aabaa", 2);
        count("aba", "ababa", 1);
        count("", "abc", 4);
        count("b*", "abba", 3);
    }

    private static void emptyAndFull() {
        count("a", "", 0);
        count("d", "abc", 0);
        count("$", "", 1);
        count("$", FULL, 1);
        count("d$", FULL, 1);
        count(".", FULL, 20);
        count("", FULL, 21);
        count(".*", FULL, 1);
        count(".*", "", 1);
        count("a|b|c|d|e|f|g|h|", FULL, 20);
        count("|".repeat(24), FULL, 21);
    }

    private static void leavesTheSearch() {
        LinearSearch x = Check.ready(0, "(a)bcdefg", "habcdefgabcdefg");
        CHECK.same("breaks() before a search", x.breaks(), 2);
        CHECK.same("no slots", Check.slots(x), "- - - -");
        CHECK.same("no work", x.work(), -1);
        CHECK.same("no matcher", x.matcher(), -1);
        x.search(2);
        int work = x.work();
        int states = x.states();
        int flushes = x.flushes();
        CHECK.same("breaks() behind a search", x.breaks(), 2);
        CHECK.same("slots", Check.slots(x), "1-8 1-2 - -");
        CHECK.same("work", x.work(), work);
        CHECK.same("matcher", x.matcher(), 2);
        CHECK.same("states", x.states(), states);
        CHECK.same("flushes", x.flushes(), flushes);
        x.search(0);
        work = x.work();
        x.breaks();
        CHECK.same("work of lists", x.work(), work);
        CHECK.same("breaks() again", x.breaks(), 2);
    }

    private static void nothingCompiled() {
        LinearSearch x = new LinearSearch(0);
        CHECK.fails("breaks() of a new object", IllegalStateException.class, x::breaks);
        Check.typeAll(x, "a)");
        Check.feedAll(x, "a");
        CHECK.fails("breaks() before compile()", IllegalStateException.class, x::breaks);
        CHECK.fails("compile()", IllegalArgumentException.class, x::compile);
        CHECK.fails("breaks() behind a refused compile()", IllegalStateException.class, x::breaks);
        Check.typeAll(x, "a");
        x.compile();
        CHECK.same("breaks()", x.breaks(), 1);
        Check.typeAll(x, "a)");
        Check.outcome(x::compile);
        CHECK.same("breaks() behind a refused compile() of another pattern", x.breaks(), 1);
    }
}
