import java.io.IOException;

/** Boundary cases of following and of the match, sentence by sentence: Terms, and promises 9 and 10. */
public final class MatchEdgesTest {
    private static final Check CHECK = new Check("MatchEdgesTest");
    private static final String FULL = "abcdefghabcdefghabcd";

    public static void main(String[] args) throws IOException {
        Sentences s = new Sentences(CHECK, args);
        s.holds("matchers of four kinds run it, which all find the same", MatchEdgesTest::emptyAndFull);
        s.holds("An object is used for at most 512 calls after it has been made", MatchEdgesTest::manyCalls);
        s.holds(". (any letter)", MatchEdgesTest::anyLetter);
        s.holds("SPLIT first at x, then at y", MatchEdgesTest::priorities);
        s.holds("SAVE notes the place in slot x of the thread, which goes on at the next instruction", MatchEdgesTest::notedPlaces);
        s.holds("FIRST goes on so at place 0 alone", MatchEdgesTest::first);
        s.holds("LAST so at the text's end alone", MatchEdgesTest::last);
        s.holds("What is followed was not yet followed at that place (all threads of the place have one row of marks)",
            MatchEdgesTest::emptyLoops);
        s.holds("the match ends here, its slots are those, and the others in the list are cut off", MatchEdgesTest::cutOff);
        s.holds("As long as no FOUND was come to, instruction 0 is followed (as the last one) at each next place, too.",
            MatchEdgesTest::laterBeginnings);
        s.holds("It ends at the text's end, or when the list is empty and FOUND was come to.", MatchEdgesTest::emptyLists);
        s.holds("Slots 0 and 1 are where the match begins and ends.", MatchEdgesTest::firstAndLastPlace);
        s.holds("-1 in slots that were not noted.", MatchEdgesTest::notNoted);
        s.holds("(with the slots of that time)", MatchEdgesTest::slotsOfThatTime);
        s.holds("Searches with a matcher: where the match begins; -1 if there is none.", MatchEdgesTest::answers);
        s.holds("IllegalArgumentException if there is no such matcher", MatchEdgesTest::noSuchMatcher);
        s.holds("IllegalStateException if nothing is compiled, or", MatchEdgesTest::nothingCompiled);
        s.holds("or the pattern is not simple for SINGLE", MatchEdgesTest::notSimple);
        s.holds("Where a group of the latest match begins, or (end) ends; group 0 is the match.", MatchEdgesTest::groups);
        s.holds("-1 if it was not noted, or there is no match.", MatchEdgesTest::noMatch);
        s.holds("IndexOutOfBoundsException if it is not 0 .. 3.", MatchEdgesTest::noSuchGroup);
        CHECK.end();
    }

    /** All matchers that can run the pattern find the same, with the lowest and the highest limit of states. */
    private static void match(String pattern, String text, String want) {
        for (int limit : new int[] {0, 15}) {
            LinearSearch x = Check.ready(limit, pattern, text);
            for (int matcher = 0; matcher <= 4; matcher++) {
                if (matcher == 3 && !x.simple()) {
                    continue;
                }
                String call = "search(" + matcher + ") for '" + pattern + "' in '" + text + "'";
                int begin = x.search(matcher);
                CHECK.same(call, Check.slots(x), want);
                CHECK.same(call + ", begin", begin, x.slot(0, false));
            }
        }
    }

    private static void emptyAndFull() {
        match("", "", "0-0 - - -");
        match("", FULL, "0-0 - - -");
        match("a", "", "- - - -");
        match("^", "", "0-0 - - -");
        match("^.*$", "", "0-0 - - -");
        match("^.*$", FULL, "0-20 - - -");
        match(FULL, FULL, "0-20 - - -");
        match(FULL + "a", FULL, "- - - -");
        match("a.*d", FULL, "0-20 - - -");
        match("|".repeat(24), FULL, "0-0 - - -");
        match("(b??b??b??b??b??b??.)*", "a".repeat(20), "0-20 19-20 - -");
        match("(b??b??b??b??b??b??.)*hh", "a".repeat(20), "- - - -");
        match(".?.?.?.?.?.?.?.?.?.?.?.?", FULL, "0-12 - - -");
        match("(||||||||||||||||||||a)b", "ab", "0-2 0-1 - -");
        match("(||||||||||||||||||||.)*", FULL, "0-20 19-20 - -");
    }

    /** The 512 calls are 3 of type and compile, 20 of feed, and 163 times a search, a slot and breaks. */
    private static void manyCalls() {
        LinearSearch x = new LinearSearch(0);
        x.type('c');
        x.type('d');
        x.compile();
        for (int i = 0; i < 20; i++) {
            x.feed(FULL.charAt(i));
        }
        for (int i = 0; i < 163; i++) {
            CHECK.same("search", x.search(i % 3), 2);
            CHECK.same("slot", x.slot(0, true), 4);
            CHECK.same("breaks", x.breaks(), 3);
        }
        LinearSearch y = Check.ready(0, "abcdefgh", "abcdefgh");
        for (int i = 0; i < 493; i++) {
            CHECK.same("search(2), again and again", y.search(2), 0);
        }
    }

    private static void anyLetter() {
        for (char c = 'a'; c <= 'h'; c++) {
            match(".", "" + c, "0-1 - - -");
        }
        match(".", "", "- - - -");
        match("..", "a", "- - - -");
        match("h.", "ah", "- - - -");
        match(".".repeat(20), FULL, "0-20 - - -");
        match(".".repeat(21), FULL, "- - - -");
    }

    private static void priorities() {
        match("a?", "a", "0-1 - - -");
        match("a??", "a", "0-0 - - -");
        match("a*", "aa", "0-2 - - -");
        match("a*?", "aa", "0-0 - - -");
        match("a+", "aa", "0-2 - - -");
        match("a+?", "aa", "0-1 - - -");
        match("(a|ab)(b?)", "ab", "0-2 0-1 1-2 -");
        match("(ab|a)(b?)", "ab", "0-2 0-2 2-2 -");
    }

    private static void notedPlaces() {
        match("()", FULL, "0-0 0-0 - -");
        match("($)", FULL, "20-20 20-20 - -");
        match("(.)$", FULL, "19-20 19-20 - -");
        match("((.*))($)", FULL, "0-20 0-20 0-20 20-20");
        match("(a)*", "aaa", "0-3 2-3 - -");
    }

    private static void first() {
        match("^", "a", "0-0 - - -");
        match("^a", "aa", "0-1 - - -");
        match("^a", "ba", "- - - -");
        match("a^", "aa", "- - - -");
        match("a^|b", "ab", "1-2 - - -");
        match("b|^a", "cab", "2-3 - - -");
        match("^^a", "a", "0-1 - - -");
        match("^$", "", "0-0 - - -");
        match("$^", "", "0-0 - - -");
        match("$^", "a", "- - - -");
        match("(|a)^a", "aa", "0-1 0-0 - -");
    }

    private static void last() {
        match("$", "", "0-0 - - -");
        match("$", "a", "1-1 - - -");
        match("$", FULL, "20-20 - - -");
        match("a$", "aab", "- - - -");
        match("a$", "aa", "1-2 - - -");
        match("d$", FULL, "19-20 - - -");
        match("$a", "a", "- - - -");
        match("a$a", "aa", "- - - -");
        match("a$$", "a", "0-1 - - -");
        match("a($|b)", "ab", "0-2 1-2 - -");
        match("a($|b)", "a", "0-1 1-1 - -");
        match("a($|)", "ab", "0-1 1-1 - -");
    }

    private static void emptyLoops() {
        match("()*", "a", "0-0 - - -");
        match("()*?", "a", "0-0 - - -");
        match("()+", "a", "0-0 0-0 - -");
        match("()+?", "a", "0-0 0-0 - -");
        match("(a*)*", "b", "0-0 - - -");
        match("(a*)+", "b", "0-0 0-0 - -");
        match("(|a)*", "a", "0-1 0-1 - -");
        match("(|a)+", "a", "0-0 0-0 - -");
        match("(^|a)*b", "aab", "0-3 1-2 - -");
        match("((a*)*)*", "aa", "0-2 0-2 0-2 -");
        match("(((a?)*)*)*", "aa", "0-2 0-2 0-2 1-2");
    }

    private static void cutOff() {
        match("a|ab", "ab", "0-1 - - -");
        match("|ab", "ab", "0-0 - - -");
        match("a??b?", "ab", "0-0 - - -");
        match("(a)|(a)", "a", "0-1 0-1 - -");
        match("a*?|b", "aab", "0-0 - - -");
        match("ab|a|abc", "abc", "0-2 - - -");
    }

    private static void laterBeginnings() {
        match("b", "ab", "1-2 - - -");
        match("abc|b", "abd", "1-2 - - -");
        match("ab|b", "ab", "0-2 - - -");
        match("b|ab", "ab", "0-2 - - -");
        match("d$|$", "c", "1-1 - - -");
        match("a|bbb", "abbb", "0-1 - - -");
        match("aab", "aaab", "1-4 - - -");
        match("d", "a".repeat(19) + "d", "19-20 - - -");
        match("d", "a".repeat(20), "- - - -");
    }

    private static void emptyLists() {
        match("$", "ab", "2-2 - - -");
        match("^b|$", "a", "1-1 - - -");
        match("a$", "ab", "- - - -");
        match("ab*", "abbcb", "0-3 - - -");
        match("a(bbb)?", "abb", "0-1 - - -");
        match("a(bb)?", "abb", "0-3 1-3 - -");
    }

    private static void firstAndLastPlace() {
        match("a", FULL, "0-1 - - -");
        match("cd$", FULL, "18-20 - - -");
        match("$", FULL, "20-20 - - -");
        match(".*", FULL, "0-20 - - -");
    }

    private static void notNoted() {
        match("a", "a", "0-1 - - -");
        match("(a)|(b)|(c)", "a", "0-1 0-1 - -");
        match("(a)|(b)|(c)", "b", "0-1 - 0-1 -");
        match("(a)|(b)|(c)", "c", "0-1 - - 0-1");
        match("(a)?b", "b", "0-1 - - -");
        match("(a)*b", "b", "0-1 - - -");
        match("()b", "b", "0-1 0-0 - -");
        match("((a)|b)*", "ab", "0-2 1-2 0-1 -");
    }

    private static void slotsOfThatTime() {
        match("((a)b|ac)", "ac", "0-2 0-2 - -");
        match("(a)?(a)b", "ab", "0-2 - 0-1 -");
        match("(a*)(a)(b)", "aab", "0-3 0-1 1-2 2-3");
        match("(a)b|(a)c|a(d)", "ad", "0-2 - - 1-2");
        match("^(a)(b)?(c)", "ac", "0-2 0-1 - 1-2");
        match("^(a|(b))*$", "aba", "0-3 2-3 1-2 -");
    }

    private static void answers() {
        for (int matcher = 0; matcher <= 4; matcher++) {
            if (matcher != 3) {
                CHECK.same("the first place by " + matcher, Check.ready(0, "a", FULL).search(matcher), 0);
                CHECK.same("the last place by " + matcher, Check.ready(0, "$", FULL).search(matcher), 20);
                CHECK.same("no match by " + matcher, Check.ready(0, "dc", FULL).search(matcher), -1);
                CHECK.same("no match in no text by " + matcher, Check.ready(0, "a", "").search(matcher), -1);
            }
        }
        CHECK.same("the first place by 3", Check.ready(0, "^a", FULL).search(3), 0);
        CHECK.same("no match by 3", Check.ready(0, "^b", FULL).search(3), -1);
        CHECK.same("no match in no text by 3", Check.ready(0, "^b", "").search(3), -1);
    }

    private static void unchanged(LinearSearch y) {
        CHECK.same("refused: slots", Check.slots(y), "1-2 1-2 - -");
        CHECK.same("refused: work()", y.work(), 6);
        CHECK.same("refused: matcher()", y.matcher(), 1);
        CHECK.same("refused: states()", y.states(), 2);
    }

    private static void noSuchMatcher() {
        LinearSearch none = new LinearSearch(0);
        LinearSearch x = Check.ready(0, "(a)", "ba");
        x.search(2);
        x.search(1);
        for (int matcher : new int[] {-1, 5, 6, Integer.MAX_VALUE, Integer.MIN_VALUE}) {
            CHECK.fails("search(" + matcher + ") of none", IllegalArgumentException.class, () -> none.search(matcher));
            CHECK.fails("search(" + matcher + ")", IllegalArgumentException.class, () -> x.search(matcher));
            unchanged(x);
        }
    }

    private static void nothingCompiled() {
        LinearSearch x = new LinearSearch(0);
        x.feed('a');
        x.type('(');
        Check.outcome(x::compile);
        for (int matcher = 0; matcher <= 4; matcher++) {
            int m = matcher;
            CHECK.fails("search(" + m + ")", IllegalStateException.class, () -> x.search(m));
        }
        CHECK.same("work()", x.work(), -1);
        CHECK.same("matcher()", x.matcher(), -1);
        CHECK.same("states()", x.states(), 0);
        x.wipe();
        x.compile();
        CHECK.same("the empty pattern is compiled, too", x.search(0), 0);
    }

    private static void notSimple() {
        LinearSearch x = Check.ready(0, "(a)", "ba");
        x.search(2);
        x.search(1);
        CHECK.fails("search(3)", IllegalStateException.class, () -> x.search(3));
        unchanged(x);
        CHECK.same("the planned one", x.search(4), 1);
        Check.typeAll(x, "^b");
        CHECK.fails("search(3) of a simple one that is not compiled", IllegalStateException.class, () -> x.search(3));
        x.compile();
        CHECK.same("search(3) of a simple one", x.search(3), 0);
    }

    private static void groups() {
        LinearSearch x = Check.ready(0, "(.)(.)(.)", "b" + FULL.substring(1));
        x.search(0);
        for (int group = 1; group <= 3; group++) {
            CHECK.same("slot(" + group + ", false)", x.slot(group, false), group - 1);
            CHECK.same("slot(" + group + ", true)", x.slot(group, true), group);
        }
        CHECK.same("slot(0, false)", x.slot(0, false), 0);
        CHECK.same("slot(0, true)", x.slot(0, true), 3);
        LinearSearch y = Check.ready(0, "(c)(d)($)", FULL);
        y.search(1);
        CHECK.same("groups at the end of a full text", Check.slots(y), "18-20 18-19 19-20 20-20");
    }

    private static void noMatch() {
        LinearSearch x = Check.ready(0, "(a)(b)?", "da");
        CHECK.same("before a search", Check.slots(x), "- - - -");
        x.search(0);
        CHECK.same("not noted", Check.slots(x), "1-2 1-2 - -");
        x.feed('b');
        CHECK.same("behind feed()", Check.slots(x), "- - - -");
        x.search(0);
        x.clear();
        CHECK.same("behind clear()", Check.slots(x), "- - - -");
        CHECK.same("none is found", x.search(0), -1);
        CHECK.same("behind a search that found none", Check.slots(x), "- - - -");
        x.feed('a');
        x.search(0);
        CHECK.same("found again", Check.slots(x), "0-1 0-1 - -");
        x.compile();
        CHECK.same("behind compile()", Check.slots(x), "- - - -");
        CHECK.same("of a new object", Check.slots(new LinearSearch(0)), "- - - -");
        noMatchBehindOne();
    }

    private static void noMatchBehindOne() {
        LinearSearch x = Check.compiled(0, "^(a)b");
        for (int matcher = 0; matcher <= 4; matcher++) {
            Check.feedAll(x, "ab");
            CHECK.same("a match by " + matcher, x.search(matcher), 0);
            Check.feedAll(x, "aa");
            CHECK.same("none behind it by " + matcher, x.search(matcher), -1);
            CHECK.same("its slots by " + matcher, Check.slots(x), "- - - -");
        }
    }

    private static void noSuchGroup() {
        LinearSearch none = new LinearSearch(0);
        LinearSearch x = Check.ready(0, "(a)", "a");
        x.search(0);
        for (int group : new int[] {-1, 4, 5, 1 << 30, Integer.MAX_VALUE, Integer.MIN_VALUE}) {
            for (boolean end : new boolean[] {false, true}) {
                String call = "slot(" + group + ", " + end + ")";
                CHECK.fails(call + " of none", IndexOutOfBoundsException.class, () -> none.slot(group, end));
                CHECK.fails(call, IndexOutOfBoundsException.class, () -> x.slot(group, end));
            }
        }
        CHECK.same("slot(3, true): a group that the pattern has not", x.slot(3, true), -1);
        CHECK.same("slot(0, false)", x.slot(0, false), 0);
    }
}
