/** Promises 9 to 12: search, slot, work, matcher. */
public final class SearchTest {
    private static final Check CHECK = new Check("SearchTest");

    public static void main(String[] args) {
        matches();
        works();
        singles();
        planned();
        wrongCalls();
        slots();
        CHECK.end();
    }

    /** All matchers that can run the pattern find the same. */
    private static void match(String pattern, String text, String want) {
        for (int matcher = 0; matcher <= 4; matcher++) {
            for (int limit : new int[] {0, 15}) {
                LinearSearch x = Check.ready(limit, pattern, text);
                if (matcher == 3 && !x.simple()) {
                    continue;
                }
                String call = pattern + " in " + text + " by " + matcher;
                int begin = x.search(matcher);
                CHECK.same(call, Check.slots(x), want);
                CHECK.same(call + ": begin", begin, x.slot(0, false));
            }
        }
    }

    private static void matches() {
        match("", "", "0-0 - - -");
        match("", "ab", "0-0 - - -");
        match("a", "", "- - - -");
        match("d", "abc", "- - - -");
        match("h", "abcdefgh", "7-8 - - -");
        match(".", "", "- - - -");
        match("..", "abc", "0-2 - - -");
        match("b|ab", "cab", "1-3 - - -");
        match("a|ab", "ab", "0-1 - - -");
        match("ab|a", "ab", "0-2 - - -");
        match("|a", "a", "0-0 - - -");
        match("a|", "ba", "0-0 - - -");
        match("a?", "a", "0-1 - - -");
        match("a??", "a", "0-0 - - -");
        match("a+", "baab", "1-3 - - -");
        match("a+?", "baab", "1-2 - - -");
        match("a+?b", "baab", "1-4 - - -");
        match("a*", "baab", "0-0 - - -");
        match(".*c", "acbcb", "0-4 - - -");
        match(".*?c", "acbcb", "0-2 - - -");
        match("^a", "ba", "- - - -");
        match("^a|b", "cb", "1-2 - - -");
        match("a^b", "ab", "- - - -");
        match("a$", "aab", "- - - -");
        match("a$", "aba", "2-3 - - -");
        match("$", "ab", "2-2 - - -");
        match("$a", "a", "- - - -");
        match("^$", "", "0-0 - - -");
        match("^$", "a", "- - - -");
        match("$^", "", "0-0 - - -");
        match("$^", "a", "- - - -");
        match("a($|b)", "cab", "1-3 2-3 - -");
        match("a($|b)", "ca", "1-2 2-2 - -");
        match("a($|)b", "cab", "1-3 2-2 - -");
        match("a(b|c)*?d", "abcbd", "0-5 3-4 - -");
        match("(a|ab)(c|bcd)(d*)", "abcd", "0-4 0-1 1-4 4-4");
        match("(a)|(b)", "b", "0-1 - 0-1 -");
        match("((a)|(b))*", "ab", "0-2 1-2 0-1 1-2");
        match("((a)b?)(c)?", "dab", "1-3 1-3 1-2 -");
        match("(a*)*", "b", "0-0 - - -");
        match("(a*)+", "b", "0-0 0-0 - -");
        match("(a*)*", "aab", "0-2 0-2 - -");
        match("(a|b)*a(a|b)(a|b)", "abbabaabbbaabab", "0-14 10-11 12-13 13-14");
        match("(.*)(.*)(.*)", "abcdefghabcdefghabcd", "0-20 0-20 20-20 20-20");
        match("(.*?)(.*?)(.*)", "abcdefghabcdefghabcd", "0-20 0-0 0-0 0-20");
        match("||||||||||||||||||||||||", "aaaaaaaaaaaaaaaaaaaa", "0-0 - - -");
        match("ab$|a", "abc", "0-1 - - -");
        match("(||||||||||||||||||||a)b", "ab", "0-2 0-1 - -");
        match("(b??b??b??b??b??b??.)*", "aaaaaaaaaaaaaaaaaaaa", "0-20 19-20 - -");
        match(".?.?.?.?.?.?.?.?.?.?.?.?", "aaaaaaaaaaaaaaaaaaaa", "0-12 - - -");
    }

    private static void work(int matcher, String pattern, String text, int want) {
        LinearSearch x = Check.ready(15, pattern, text);
        x.search(matcher);
        CHECK.same("work of " + matcher + " for " + pattern + " in " + text, x.work(), want);
        CHECK.same("matcher of " + matcher + " for " + pattern + " in " + text, x.matcher(), matcher);
    }

    private static void works() {
        work(0, "", "", 1);
        work(1, "", "", 1);
        work(2, "", "", 1);
        work(0, "ab", "aab", 6);
        work(1, "ab", "aab", 5);
        work(2, "ab", "aab", 3);
        work(0, "d", "abc", 4);
        work(1, "d", "abc", 4);
        work(2, "d", "abc", 1);
        work(0, "a(b|c)*?d", "abcbd", 18);
        work(1, "a(b|c)*?d", "abcbd", 28);
        work(2, "a(b|c)*?d", "abcbd", 3);
        work(0, "$", "ab", 1);
        work(1, "$", "ab", 4);
        work(2, "$", "ab", 1);
        work(0, "^$", "", 1);
        work(1, "^$", "", 3);
        work(2, "^$", "", 1);
        work(0, "(a*)*", "b", 2);
        work(1, "(a*)*", "b", 7);
        work(2, "(a*)*", "b", 2);
        work(0, "a*", "aba", 4);
        work(2, "a*", "aba", 3);
        work(1, "a*b", "aaac", 18);
        work(1, "^a", "bbb", 5);
        work(2, "^a", "bbb", 2);
        LinearSearch x = Check.ready(5, "ab", "aab");
        CHECK.same("work before a search", x.work(), -1);
        CHECK.same("matcher before a search", x.matcher(), -1);
        x.search(2);
        x.search(2);
        CHECK.same("work when all states are known", x.work(), 0);
        x.search(1);
        CHECK.same("work of marks", x.work(), 5);
        CHECK.same("marks are set anew", x.search(1), 1);
        CHECK.same("work of marks again", x.work(), 5);
        x.search(0);
        CHECK.same("work of the latest search", x.work(), 6);
        CHECK.same("matcher of the latest search", x.matcher(), 0);
    }

    private static void single(String pattern, String text, int begin, int end, int work) {
        LinearSearch x = Check.ready(0, pattern, text);
        CHECK.same("single " + pattern + " in " + text, x.search(3), begin);
        CHECK.same("single " + pattern + " in " + text + ": end", x.slot(0, true), end);
        CHECK.same("single " + pattern + " in " + text + ": work", x.work(), work);
        CHECK.same("single " + pattern + " in " + text + ": matcher", x.matcher(), 3);
        CHECK.same("single " + pattern + " in " + text + ": no states", x.states(), 0);
    }

    private static void singles() {
        single("^a*b", "aab", 0, 3, 4);
        single("^a*b", "aabbb", 0, 3, 4);
        single("^a*?", "aa", 0, 0, 1);
        single("^a*", "aab", 0, 2, 3);
        single("^a*", "", 0, 0, 1);
        single("^ab", "aa", -1, -1, 2);
        single("^a$", "ab", -1, -1, 2);
        single("^a$", "a", 0, 1, 2);
        single("^b", "ab", -1, -1, 1);
        single("^.*$", "abcdefghabcdefghabcd", 0, 20, 21);
        single("^(a|b)*c?$", "abb", 0, 3, 4);
        single("^a(bc)?", "abd", 0, 1, 3);
    }

    private static void planned(String pattern, String text, int want) {
        LinearSearch x = Check.ready(15, pattern, text);
        int begin = x.search(4);
        CHECK.same("planned for " + pattern + " in " + text, x.matcher(), want);
        int work = x.work();
        LinearSearch y = Check.ready(15, pattern, text);
        CHECK.same("planned: begin", begin, y.search(want));
        CHECK.same("planned: work", work, y.work());
    }

    private static void planned() {
        planned("^a*b", "aab", 3);
        planned("^.*", "a".repeat(20), 3);
        planned("^a*a", "aa", 1);
        planned("aaaaaaa", "a".repeat(15), 1);
        planned("aaaaaaa", "a".repeat(16), 2);
        planned("a", "a".repeat(20), 1);
        planned("|".repeat(21), "aa", 2);
        planned("a".repeat(24), "aaaa", 1);
        planned("a".repeat(24), "aaaaa", 2);
        LinearSearch x = Check.ready(0, "a".repeat(20), "a".repeat(20));
        CHECK.same("planned, and given up", x.search(4), 0);
        CHECK.same("planned, and given up: matcher", x.matcher(), 0);
    }

    private static void wrongCalls() {
        LinearSearch x = new LinearSearch(0);
        for (int matcher : new int[] {-1, 5, Integer.MAX_VALUE, Integer.MIN_VALUE}) {
            CHECK.fails("search(" + matcher + ") of none", IllegalArgumentException.class, () -> x.search(matcher));
        }
        for (int matcher = 0; matcher <= 4; matcher++) {
            int m = matcher;
            CHECK.fails("search(" + m + ") of none", IllegalStateException.class, () -> x.search(m));
        }
        CHECK.same("no search, no work", x.work(), -1);
        LinearSearch y = Check.ready(0, "(a)", "ba");
        y.search(1);
        CHECK.fails("search(3), not simple", IllegalStateException.class, () -> y.search(3));
        CHECK.fails("search(5)", IllegalArgumentException.class, () -> y.search(5));
        CHECK.fails("search(-1)", IllegalArgumentException.class, () -> y.search(-1));
        CHECK.same("a refused search keeps the match", Check.slots(y), "1-2 1-2 - -");
        CHECK.same("a refused search keeps the work", y.work(), 6);
        CHECK.same("a refused search keeps the matcher", y.matcher(), 1);
    }

    private static void slots() {
        LinearSearch x = Check.ready(0, "(a)|(b)", "cb");
        CHECK.same("slot before a search", x.slot(0, false), -1);
        x.search(0);
        CHECK.same("slot(0, false)", x.slot(0, false), 1);
        CHECK.same("slot(0, true)", x.slot(0, true), 2);
        CHECK.same("slot(1, false)", x.slot(1, false), -1);
        CHECK.same("slot(2, false)", x.slot(2, false), 1);
        CHECK.same("slot(2, true)", x.slot(2, true), 2);
        CHECK.same("slot(3, true)", x.slot(3, true), -1);
        for (int group : new int[] {-1, 4, Integer.MAX_VALUE, Integer.MIN_VALUE}) {
            CHECK.fails("slot(" + group + ", true)", IndexOutOfBoundsException.class, () -> x.slot(group, true));
            CHECK.fails("slot(" + group + ", false)", IndexOutOfBoundsException.class, () -> x.slot(group, false));
        }
        Check.typeAll(x, "d");
        x.compile();
        CHECK.same("no match", x.search(1), -1);
        CHECK.same("slots without a match", Check.slots(x), "- - - -");
    }
}
