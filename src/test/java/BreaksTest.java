/** Promise 15: breaks. */
public final class BreaksTest {
    private static final Check CHECK = new Check("BreaksTest");

    public static void main(String[] args) {
        counts();
        leavesTheSearch();
        CHECK.fails("breaks of none", IllegalStateException.class, () -> new LinearSearch(0).breaks());
        CHECK.end();
    }

    private static void count(String pattern, String text, int want) {
        CHECK.same("breaks of " + pattern + " in " + text, Check.ready(0, pattern, text).breaks(), want);
    }

    private static void counts() {
        count("", "", 1);
        count("", "abc", 4);
        count("a", "", 0);
        count("a", "bcd", 0);
        count("a", "abaa", 3);
        count("aa", "aaaaa", 2);
        count("a*", "aba", 2);
        count("a*", "bab", 3);
        count("a*", "aabbaa", 3);
        count("a*?", "aba", 4);
        count("|a", "aba", 4);
        count("a|", "aba", 2);
        count("^a", "aaa", 1);
        count("^", "aaa", 1);
        count("$", "aaa", 1);
        count("a$", "aaa", 1);
        count("a|$", "aaa", 3);
        count("a|$", "aab", 3);
        count("b|a*", "abb", 3);
        count(".", "abcdefghabcdefghabcd", 20);
        count("", "abcdefghabcdefghabcd", 21);
        count(".*", "abcdefghabcdefghabcd", 1);
        count("(ab|a)(c|bcd)", "abcdabc", 2);
    }

    private static void leavesTheSearch() {
        LinearSearch x = Check.ready(0, "abc", "dabcabc");
        CHECK.same("breaks without a search", x.breaks(), 2);
        CHECK.same("breaks makes no search", x.work(), -1);
        CHECK.same("breaks makes no match", Check.slots(x), "- - - -");
        x.search(2);
        int work = x.work();
        CHECK.same("breaks", x.breaks(), 2);
        CHECK.same("breaks: slots", Check.slots(x), "1-4 - - -");
        CHECK.same("breaks: work", x.work(), work);
        CHECK.same("breaks: matcher", x.matcher(), 2);
        CHECK.same("breaks: states", x.states(), 2);
        CHECK.same("breaks: flushes", x.flushes(), 1);
    }
}
