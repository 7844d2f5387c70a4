import java.io.IOException;

/** Boundary cases of the matchers' work and of the plan, sentence by sentence: MATCHERS 0, 1, 3, 4; promises 11, 12. */
public final class WorkEdgesTest {
    private static final Check CHECK = new Check("WorkEdgesTest");
    private static final String FULL = "abcdefghabcdefghabcd";

    public static void main(String[] args) throws IOException {
        Sentences s = new Sentences(CHECK, args);
        s.holds("Its WORK is how many entries of lists were gone through.", WorkEdgesTest::listsWork);
        s.holds("from place 0, then 1, and so on, till there is a match", WorkEdgesTest::marksTillMatch);
        s.holds("a mark of instruction and place that was set before (also from an earlier place)", WorkEdgesTest::earlierMarks);
        s.holds("Its work: how many marks were set.", WorkEdgesTest::marksWork);
        s.holds("work: how many letters it went over, and 1", WorkEdgesTest::singleWork);
        s.holds("SINGLE if the pattern is simple", WorkEdgesTest::plannedSingle);
        s.holds("else MARKS, if instructions times (text and 1) are at most 128", WorkEdgesTest::plannedMarks);
        s.holds("else STATES.", WorkEdgesTest::plannedStates);
        s.holds("The work of the latest search; -1 if there was none", WorkEdgesTest::latestWork);
        s.holds("(also after compile(), feed() that was not refused, clear())", WorkEdgesTest::forgottenWork);
        s.holds("Which matcher did it (0 .. 3); -1 as with work().", WorkEdgesTest::whichMatcher);
        CHECK.end();
    }

    private static void work(int matcher, String pattern, String text, int want) {
        LinearSearch x = Check.ready(15, pattern, text);
        x.search(matcher);
        CHECK.same("work() of search(" + matcher + ") for '" + pattern + "' in '" + text + "'", x.work(), want);
    }

    private static void listsWork() {
        work(0, "", "", 1);
        work(0, "", FULL, 1);
        work(0, "a", "", 1);
        work(0, "a", "b", 2);
        work(0, "d", "a".repeat(20), 21);
        work(0, "a|ab", "ab", 3);
        work(0, "ab|a", "ab", 5);
        work(0, "^a", "bbb", 1);
        work(0, "^$", "a", 0);
        work(0, "$", "ab", 1);
        work(0, "$a", "ab", 1);
        work(0, "(|a)*", "a", 4);
        work(0, ".", FULL, 2);
    }

    private static void marksTillMatch() {
        work(1, "a", "abbbbbbb", 2);
        work(1, "b", "ab", 3);
        work(1, "$", "ab", 4);
        work(1, "$", "", 2);
        work(1, "d", "a".repeat(20), 21);
    }

    private static void earlierMarks() {
        work(1, "a*b", "aac", 14);
        work(1, ".*d", "abc", 15);
        LinearSearch x = Check.ready(0, "a*b", "aac");
        x.search(1);
        x.search(1);
        CHECK.same("marks of an earlier search are gone", x.work(), 14);
    }

    private static void marksWork() {
        work(1, "", "", 1);
        work(1, "", FULL, 1);
        work(1, "a", "", 1);
        work(1, "a", "b", 2);
        work(1, "^$", "", 3);
        work(1, "^$", "a", 3);
        work(1, "()*", "", 5);
        work(1, "|".repeat(24), FULL, 3);
    }

    private static void singleWork() {
        work(3, "^", "", 1);
        work(3, "^", FULL, 1);
        work(3, "^.*", FULL, 21);
        work(3, "^.*$", "", 1);
        work(3, "^a", "", 1);
        work(3, "^a", "b", 1);
        work(3, "^a", "a", 2);
        work(3, "^a", "ab", 2);
        work(3, "^ab", "ac", 2);
        work(3, "^a*", "aab", 3);
        work(3, "^a*?", "aa", 1);
        work(3, "^$", "a", 1);
        work(3, "^a$", "ab", 2);
    }

    private static void planned(String pattern, int letters, int want) {
        LinearSearch x = Check.ready(15, pattern, "a".repeat(letters));
        x.search(4);
        CHECK.same("matcher() of search(4) for '" + pattern + "' and " + letters + " letters", x.matcher(), want);
        int work = x.work();
        x.compile();
        x.search(want);
        CHECK.same("work() of it", work, x.work());
    }

    private static void plannedSingle() {
        planned("^", 0, 3);
        planned("^a", 1, 3);
        planned("^" + "a".repeat(23), 20, 3);
    }

    private static void plannedMarks() {
        planned("", 0, 1);
        planned("a", 20, 1);
        planned("aaaaaaa", 15, 1);
        planned("a".repeat(15), 7, 1);
        planned("|".repeat(7) + "a".repeat(17), 3, 1);
        planned("|".repeat(24), 1, 1);
        planned("a".repeat(24), 4, 1);
        planned("aaaaa", 20, 1);
        planned("^a*a", 2, 1);
    }

    private static void plannedStates() {
        planned("|".repeat(21), 2, 2);
        planned("|" + "a".repeat(23), 4, 2);
        planned("aaaaaaa", 16, 2);
        planned("a".repeat(15), 8, 2);
        planned("|".repeat(7) + "a".repeat(17), 4, 2);
        planned("|".repeat(24), 2, 2);
        planned("aaaaaa", 20, 2);
        planned("^a*aaaaaa", 20, 2);
    }

    private static void latestWork() {
        LinearSearch x = Check.ready(5, "ab", "aab");
        CHECK.same("of a new object", new LinearSearch(0).work(), -1);
        CHECK.same("before a search", x.work(), -1);
        x.breaks();
        CHECK.same("behind breaks()", x.work(), -1);
        x.search(2);
        CHECK.same("of the first search", x.work(), 3);
        x.search(2);
        CHECK.same("of the second search: nothing to be made", x.work(), 0);
        x.search(1);
        CHECK.same("of the third search", x.work(), 5);
        x.search(0);
        CHECK.same("of the fourth search", x.work(), 6);
        work(0, "d", "abc", 4);
        CHECK.fails("search(5)", IllegalArgumentException.class, () -> x.search(5));
        CHECK.same("behind a refused search", x.work(), 6);
    }

    private static void gone(String when, LinearSearch x) {
        CHECK.same(when + ": work()", x.work(), -1);
        CHECK.same(when + ": matcher()", x.matcher(), -1);
        x.search(0);
    }

    private static void stays(String when, LinearSearch x) {
        CHECK.same(when + ": work()", x.work(), 1);
        CHECK.same(when + ": matcher()", x.matcher(), 0);
    }

    private static void forgottenWork() {
        LinearSearch x = Check.ready(0, "", FULL);
        x.search(0);
        stays("a search", x);
        x.feed('a');
        stays("feed(), refused, full", x);
        x.clear();
        gone("clear()", x);
        x.clear();
        gone("clear() of an empty text", x);
        x.feed('i');
        stays("feed(), refused, no letter", x);
        x.feed('a');
        gone("feed()", x);
        x.compile();
        gone("compile()", x);
        x.type('(');
        stays("type()", x);
        Check.outcome(x::compile);
        stays("compile(), refused", x);
        x.wipe();
        stays("wipe()", x);
        x.breaks();
        stays("breaks()", x);
    }

    private static void whichMatcher() {
        CHECK.same("of a new object", new LinearSearch(0).matcher(), -1);
        LinearSearch x = Check.ready(0, "^a", "b");
        CHECK.same("before a search", x.matcher(), -1);
        for (int matcher = 0; matcher <= 3; matcher++) {
            x.search(matcher);
            CHECK.same("of search(" + matcher + ") that finds none", x.matcher(), matcher);
        }
        x.search(4);
        CHECK.same("of search(4)", x.matcher(), 3);
        CHECK.fails("search(-1)", IllegalArgumentException.class, () -> x.search(-1));
        CHECK.same("behind a refused search", x.matcher(), 3);
    }
}
