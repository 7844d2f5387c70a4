/** Promises 13 and 14: states, flushes. */
public final class StatesTest {
    private static final Check CHECK = new Check("StatesTest");

    public static void main(String[] args) {
        keptOverSearches();
        flushing();
        firstStateIsMadeAgain();
        openCounts();
        cutAtFound();
        otherMatchersMakeNone();
        CHECK.end();
    }

    private static void after(String when, LinearSearch x, int work, int states, int flushes) {
        CHECK.same(when + ": work", x.work(), work);
        CHECK.same(when + ": states", x.states(), states);
        CHECK.same(when + ": flushes", x.flushes(), flushes);
    }

    private static void keptOverSearches() {
        LinearSearch x = Check.ready(5, "ab", "aab");
        CHECK.same("states before a search", x.states(), 0);
        x.search(2);
        after("first search", x, 3, 3, 0);
        x.search(2);
        after("same search", x, 0, 3, 0);
        Check.feedAll(x, "cab");
        x.search(2);
        after("known states for another text", x, 0, 3, 0);
        Check.feedAll(x, "aaba");
        x.search(2);
        after("a state more", x, 1, 4, 0);
        x.compile();
        CHECK.same("states after compile", x.states(), 0);
        CHECK.same("flushes after compile", x.flushes(), 0);
    }

    private static void flushing() {
        LinearSearch x = Check.ready(0, "abcdefgh", "abcdefgh");
        x.search(2);
        after("two flushes", x, 9, 3, 2);
        CHECK.same("two flushes: matcher", x.matcher(), 2);
        CHECK.same("the third flush", x.search(2), 0);
        after("the third flush", x, 16, 0, 5);
        CHECK.same("the third flush: matcher", x.matcher(), 0);
        CHECK.same("the third flush: slots", Check.slots(x), "0-8 - - -");
        x.search(2);
        after("from no state on", x, 9, 3, 7);
        x.compile();
        CHECK.same("compile throws states away", x.states(), 0);
        CHECK.same("compile begins to count anew", x.flushes(), 0);
    }

    /** The states of abc: [a], [b a], [c a], [FOUND], and with limit 3 the last one is kept alone. */
    private static void firstStateIsMadeAgain() {
        LinearSearch x = Check.ready(0, "abc", "abc");
        x.search(2);
        after("abc", x, 4, 1, 1);
        x.clear();
        x.search(2);
        after("the first state again", x, 1, 2, 1);
        Check.feedAll(x, "d");
        x.search(2);
        after("a state that is the first one", x, 0, 2, 1);
    }

    /** a* in aa: [a FOUND] is open at place 0, and not open behind it. */
    private static void openCounts() {
        LinearSearch x = Check.ready(0, "a*", "aa");
        x.search(2);
        after("open and not open", x, 2, 2, 0);
        Check.feedAll(x, "b");
        x.search(2);
        after("nothing in it, and not open", x, 1, 3, 0);
        Check.feedAll(x, "baaaaa");
        x.search(2);
        after("over", x, 0, 3, 0);
    }

    /** Behind a and behind c the list is FOUND and more; up to FOUND the two are one state. */
    private static void cutAtFound() {
        LinearSearch x = Check.ready(15, "a(|b)|c(|d)", "a");
        x.search(2);
        after("FOUND cuts", x, 2, 2, 0);
        Check.feedAll(x, "c");
        x.search(2);
        after("FOUND cuts the other", x, 0, 2, 0);
    }

    private static void otherMatchersMakeNone() {
        LinearSearch x = Check.ready(0, "^a*b", "aab");
        x.search(0);
        x.search(1);
        x.search(3);
        x.search(4);
        x.breaks();
        CHECK.same("states of other matchers", x.states(), 0);
        CHECK.same("flushes of other matchers", x.flushes(), 0);
    }
}
