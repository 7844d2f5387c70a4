import java.io.IOException;

/** Boundary cases of a pattern and its program, sentence by sentence: Terms, and promises 1 to 5. */
public final class PatternEdgesTest {
    private static final Check CHECK = new Check("PatternEdgesTest");
    private static final String REFUSED = "IllegalArgumentException";

    public static void main(String[] args) throws IOException {
        Sentences s = new Sentences(CHECK, args);
        s.holds("A PATTERN (at most 24 characters) is a CHOICE", PatternEdgesTest::longestPatterns);
        s.holds("SEQUENCES with | between them (one at least; each may be empty)", PatternEdgesTest::emptySequences);
        s.holds("an ATOM and perhaps a SIGN, ? * or +", PatternEdgesTest::signNeedsItsAtom);
        s.holds("behind which another ? may stand (the piece is LAZY then)", PatternEdgesTest::oneMoreQuestionMark);
        s.holds("Atoms: a letter a .. h", PatternEdgesTest::lettersOfPatterns);
        s.holds("a GROUP: ( a choice )", PatternEdgesTest::groupsOpenAndClose);
        s.holds("at most 3 of them", PatternEdgesTest::threeGroups);
        s.holds("numbered from 1 by where they open", PatternEdgesTest::groupNumbers);
        s.holds("a choice of one sequence is that", PatternEdgesTest::choiceOfOne);
        s.holds("for each sequence but the last one a SPLIT", PatternEdgesTest::choiceOfMany);
        s.holds("and (y) to the beginning of what is written for the others, the sequence, and a GO to the choice's end",
            PatternEdgesTest::whereChoicesLead);
        s.holds("e?: a SPLIT to the next instruction and behind it all, e.", PatternEdgesTest::programsOfSigns);
        s.holds("Lazy: the SPLIT's x and y change places.", PatternEdgesTest::programsOfLazySigns);
        s.holds("In the end stands FOUND.", PatternEdgesTest::foundIsTheEnd);
        s.holds("An empty pattern and text, nothing compiled", PatternEdgesTest::newObject);
        s.holds("A character more of the pattern's text; false, refused, if there are 24.", PatternEdgesTest::fullPattern);
        s.holds("The pattern's text is empty.", PatternEdgesTest::wiped);
        s.holds("Compiles the pattern's text: how many instructions.", PatternEdgesTest::sizes);
        s.holds("All states are thrown away (no flush), there is no match.", PatternEdgesTest::compileForgets);
        s.holds("IllegalArgumentException if it is no pattern", PatternEdgesTest::refusedWithNoneBefore);
        s.holds("(the one compiled before stays, all that goes with it, too)", PatternEdgesTest::refusedKeepsAll);
        s.holds("its kind (what = 0), x (1), y (2); 0 for x or y that it has not", PatternEdgesTest::whatItHasNot);
        s.holds("IndexOutOfBoundsException if there is none such", PatternEdgesTest::noSuchInstruction);
        s.holds("IllegalArgumentException if there is no such what", PatternEdgesTest::noSuchWhat);
        CHECK.end();
    }

    private static void size(String pattern, Object want) {
        CHECK.same("compile() of '" + pattern + "'", Check.size(pattern), want);
    }

    private static void refused(String... patterns) {
        for (String pattern : patterns) {
            size(pattern, REFUSED);
        }
    }

    private static void program(String pattern, String want) {
        LinearSearch x = new LinearSearch(0);
        Check.typeAll(x, pattern);
        CHECK.same("the program of '" + pattern + "'", Check.listing(x, x.compile()), want);
    }

    private static void longestPatterns() {
        size("a".repeat(23), 24);
        size("a".repeat(24), 25);
        size("(((" + "b".repeat(18) + ")))", 25);
        size("a*".repeat(12), 37);
        size("(".repeat(24), REFUSED);
        size("a".repeat(23) + "(", REFUSED);
        size("a".repeat(22) + "**", REFUSED);
    }

    private static void emptySequences() {
        program("", "FOUND 0 0");
        program("|", "SPLIT 1 2, GO 2 0, FOUND 0 0");
        program("a|", "SPLIT 1 3, LETTER 0 0, GO 3 0, FOUND 0 0");
        program("|a", "SPLIT 1 2, GO 3 0, LETTER 0 0, FOUND 0 0");
        program("a||b", "SPLIT 1 3, LETTER 0 0, GO 6 0, SPLIT 4 5, GO 6 0, LETTER 1 0, FOUND 0 0");
        program("()", "SAVE 2 0, SAVE 3 0, FOUND 0 0");
        program("(|)", "SAVE 2 0, SPLIT 2 3, GO 3 0, SAVE 3 0, FOUND 0 0");
        program("(|)|", "SPLIT 1 6, SAVE 2 0, SPLIT 3 4, GO 4 0, SAVE 3 0, GO 6 0, FOUND 0 0");
    }

    private static void signNeedsItsAtom() {
        size("a?", 3);
        size("a*", 4);
        size("a+", 3);
        refused("?", "*", "+", "??", "*?", "+?", "?a", "|?", "|*", "a|+", "(?", "(*)", "(+a)", "(a|?)", "a|*?");
        refused("a**", "a*+", "a+*", "a++", "a?*", "a?+", "(a)**", "^*+", "$+*", ".?+");
    }

    private static void oneMoreQuestionMark() {
        size("a??", 3);
        size("a*?", 4);
        size("a+?", 3);
        refused("a???", "a*??", "a+??", "a??*", "a??+", "a*?*", "a*?+", "a+?*", "a+?+");
        size("a??b", 4);
        size("a??|", 5);
        size("(a??)", 5);
    }

    private static void lettersOfPatterns() {
        for (char c = 'a'; c <= 'h'; c++) {
            program("" + c, "LETTER " + (c - 'a') + " 0, FOUND 0 0");
        }
        for (int c : new int[] {'`', 'i', 'z', 'A', 'H', '0', ' ', '-', ',', '\'', '{', '[', '\\', 0, 10, 127, 255, 256 + 'a', 0xffff}) {
            refused("" + (char) c, "a" + (char) c, "(" + (char) c + ")", "a|" + (char) c);
        }
    }

    private static void groupsOpenAndClose() {
        size("(a)", 4);
        refused("(", "(a", "((a)", "(a|b", "(a|", "a(", "()(", "(()");
        refused(")", "a)", "(a))", "())", "a|b)", ")(", "|)", ")a");
    }

    private static void threeGroups() {
        size("()()()", 7);
        size("((()))", 7);
        size("(()())", 7);
        size("(a)(b)|(c)", 12);
        refused("()()()()", "(((())))", "(()()())", "(a)(b)|(c)|(d)", "()()()(", "((((", "()|()|()|()");
        LinearSearch x = Check.compiled(0, "()()()");
        CHECK.same("groups are counted anew by compile()", x.compile(), 7);
    }

    private static void groupNumbers() {
        program("(a)", "SAVE 2 0, LETTER 0 0, SAVE 3 0, FOUND 0 0");
        program("((a)(b))", "SAVE 2 0, SAVE 4 0, LETTER 0 0, SAVE 5 0, SAVE 6 0, LETTER 1 0, SAVE 7 0, SAVE 3 0, FOUND 0 0");
        program("(((a)))", "SAVE 2 0, SAVE 4 0, SAVE 6 0, LETTER 0 0, SAVE 7 0, SAVE 5 0, SAVE 3 0, FOUND 0 0");
        program("()(())", "SAVE 2 0, SAVE 3 0, SAVE 4 0, SAVE 6 0, SAVE 7 0, SAVE 5 0, FOUND 0 0");
    }

    private static void choiceOfOne() {
        program("ab", "LETTER 0 0, LETTER 1 0, FOUND 0 0");
        program("^.$", "FIRST 0 0, ANY 0 0, LAST 0 0, FOUND 0 0");
        program("(ab)", "SAVE 2 0, LETTER 0 0, LETTER 1 0, SAVE 3 0, FOUND 0 0");
    }

    private static void choiceOfMany() {
        program("a|b", "SPLIT 1 3, LETTER 0 0, GO 4 0, LETTER 1 0, FOUND 0 0");
        program("a|b|c", "SPLIT 1 3, LETTER 0 0, GO 7 0, SPLIT 4 6, LETTER 1 0, GO 7 0, LETTER 2 0, FOUND 0 0");
        LinearSearch x = Check.compiled(0, "|".repeat(24));
        for (int i = 0; i < 48; i += 2) {
            String one = "instruction " + i + " of 24 |";
            CHECK.same(one + ": SPLIT", x.instruction(i, 0), 2);
            CHECK.same(one + ": x", x.instruction(i, 1), i + 1);
            CHECK.same(one + ": y", x.instruction(i, 2), i + 2);
            CHECK.same(one + ": GO behind it", x.instruction(i + 1, 0), 3);
            CHECK.same(one + ": where GO goes", x.instruction(i + 1, 1), 48);
        }
        CHECK.same("instruction 48 of 24 |", x.instruction(48, 0), 7);
    }

    private static void whereChoicesLead() {
        program("a(b|c)d|e", "SPLIT 1 10, LETTER 0 0, SAVE 2 0, SPLIT 4 6, LETTER 1 0, GO 7 0, LETTER 2 0, SAVE 3 0, "
            + "LETTER 3 0, GO 11 0, LETTER 4 0, FOUND 0 0");
        program("(a|b)|(c|d)", "SPLIT 1 8, SAVE 2 0, SPLIT 3 5, LETTER 0 0, GO 6 0, LETTER 1 0, SAVE 3 0, GO 14 0, "
            + "SAVE 4 0, SPLIT 10 12, LETTER 2 0, GO 13 0, LETTER 3 0, SAVE 5 0, FOUND 0 0");
        program("(|a)*", "SPLIT 1 7, SAVE 2 0, SPLIT 3 4, GO 5 0, LETTER 0 0, SAVE 3 0, GO 0 0, FOUND 0 0");
        program("a*|b", "SPLIT 1 5, SPLIT 2 4, LETTER 0 0, GO 1 0, GO 6 0, LETTER 1 0, FOUND 0 0");
        program("a+|b", "SPLIT 1 4, LETTER 0 0, SPLIT 1 3, GO 5 0, LETTER 1 0, FOUND 0 0");
        program("a+?|b", "SPLIT 1 4, LETTER 0 0, SPLIT 3 1, GO 5 0, LETTER 1 0, FOUND 0 0");
    }

    private static void programsOfSigns() {
        program("a?", "SPLIT 1 2, LETTER 0 0, FOUND 0 0");
        program("a*", "SPLIT 1 3, LETTER 0 0, GO 0 0, FOUND 0 0");
        program("a+", "LETTER 0 0, SPLIT 0 2, FOUND 0 0");
        program("b(a|)?", "LETTER 1 0, SPLIT 2 7, SAVE 2 0, SPLIT 4 6, LETTER 0 0, GO 6 0, SAVE 3 0, FOUND 0 0");
        program("b()*", "LETTER 1 0, SPLIT 2 5, SAVE 2 0, SAVE 3 0, GO 1 0, FOUND 0 0");
        program("b()+", "LETTER 1 0, SAVE 2 0, SAVE 3 0, SPLIT 1 4, FOUND 0 0");
        program("^*$+", "SPLIT 1 3, FIRST 0 0, GO 0 0, LAST 0 0, SPLIT 3 5, FOUND 0 0");
    }

    private static void programsOfLazySigns() {
        program("a??", "SPLIT 2 1, LETTER 0 0, FOUND 0 0");
        program("a*?", "SPLIT 3 1, LETTER 0 0, GO 0 0, FOUND 0 0");
        program("a+?", "LETTER 0 0, SPLIT 2 0, FOUND 0 0");
        program("(a??|b)+?", "SAVE 2 0, SPLIT 2 5, SPLIT 4 3, LETTER 0 0, GO 6 0, LETTER 1 0, SAVE 3 0, SPLIT 8 0, FOUND 0 0");
    }

    private static void foundIsTheEnd() {
        for (String pattern : new String[] {"", "a", "a|b", "()", "a+?", "|".repeat(24), "a".repeat(24)}) {
            LinearSearch x = new LinearSearch(0);
            Check.typeAll(x, pattern);
            int size = x.compile();
            CHECK.same("the end of '" + pattern + "'", x.instruction(size - 1, 0), 7);
            CHECK.same("behind it", Check.outcome(() -> x.instruction(size, 0)), "IndexOutOfBoundsException");
        }
    }

    private static void newObject() {
        for (int limit : new int[] {0, 15, 16, -1, Integer.MAX_VALUE, Integer.MIN_VALUE}) {
            LinearSearch x = new LinearSearch(limit);
            CHECK.fails("instruction(0, 0)", IndexOutOfBoundsException.class, () -> x.instruction(0, 0));
            CHECK.fails("simple()", IllegalStateException.class, x::simple);
            CHECK.fails("breaks()", IllegalStateException.class, x::breaks);
            CHECK.fails("search(4)", IllegalStateException.class, () -> x.search(4));
            CHECK.same("slots", Check.slots(x), "- - - -");
            CHECK.same("work()", x.work(), -1);
            CHECK.same("matcher()", x.matcher(), -1);
            CHECK.same("states()", x.states(), 0);
            CHECK.same("flushes()", x.flushes(), 0);
            CHECK.same("the empty pattern's compile()", x.compile(), 1);
            x.search(0);
            CHECK.same("the empty pattern in the empty text", Check.slots(x), "0-0 - - -");
            x.type('$');
            x.compile();
            CHECK.same("the empty text's end", x.search(0), 0);
        }
    }

    private static void fullPattern() {
        LinearSearch x = new LinearSearch(0);
        for (int i = 1; i <= 24; i++) {
            CHECK.same("type() of character " + i, x.type(i == 24 ? 'b' : 'a'), true);
        }
        CHECK.same("type() of character 25", x.type('c'), false);
        CHECK.same("type() of character 26", x.type('('), false);
        CHECK.same("compile(): the refused ones are not in it", x.compile(), 25);
        CHECK.same("the last letter", x.instruction(23, 1), 1);
        CHECK.same("type() after compile()", x.type('c'), false);
        LinearSearch y = new LinearSearch(0);
        for (int c : new int[] {'i', 'Z', ' ', '\\', 0, 255, 0xffff}) {
            CHECK.same("type() of what no pattern has", y.type((char) c), true);
        }
        CHECK.fails("it is in the text", IllegalArgumentException.class, y::compile);
        LinearSearch z = Check.compiled(0, "a");
        z.type('b');
        CHECK.same("type() behind a compiled pattern", z.compile(), 3);
    }

    private static void wiped() {
        LinearSearch x = new LinearSearch(0);
        x.wipe();
        CHECK.same("wipe() of an empty one", x.compile(), 1);
        Check.typeAll(x, "a".repeat(24));
        x.wipe();
        CHECK.same("wipe() of a full one", x.compile(), 1);
        for (int i = 1; i <= 24; i++) {
            CHECK.same("type() of character " + i, x.type('a'), true);
        }
        CHECK.same("type() of character 25", x.type('a'), false);
        LinearSearch y = Check.ready(0, "a", "ba");
        y.search(2);
        y.wipe();
        CHECK.same("the program stays", Check.listing(y, 2), "LETTER 0 0, FOUND 0 0");
        CHECK.same("the match stays", Check.slots(y), "1-2 - - -");
        CHECK.same("the states stay", y.states(), 2);
        CHECK.same("the search can be made again", y.search(0), 1);
    }

    private static void sizes() {
        size("", 1);
        size("a", 2);
        size("|".repeat(24), 49);
        size("(|)(|)(|)" + "|".repeat(15), 43);
        LinearSearch x = Check.compiled(0, "abc");
        CHECK.same("compile() once more", x.compile(), 4);
    }

    private static void compileForgets() {
        LinearSearch x = Check.ready(0, "abcdefgh", "abcdefgh");
        x.search(2);
        CHECK.same("states before", x.states(), 3);
        x.compile();
        CHECK.same("states", x.states(), 0);
        CHECK.same("flushes", x.flushes(), 0);
        CHECK.same("slots", Check.slots(x), "- - - -");
        x.search(2);
        CHECK.same("the states are made anew", x.work(), 9);
        Check.typeAll(x, "b");
        x.compile();
        CHECK.same("no state of another pattern is taken", x.search(2), 1);
        CHECK.same("the text stays", x.slot(0, true), 2);
    }

    private static void refusedWithNoneBefore() {
        LinearSearch x = new LinearSearch(0);
        Check.typeAll(x, "ab(");
        CHECK.fails("compile()", IllegalArgumentException.class, x::compile);
        CHECK.fails("compile() again", IllegalArgumentException.class, x::compile);
        CHECK.fails("instruction(0, 0)", IndexOutOfBoundsException.class, () -> x.instruction(0, 0));
        CHECK.fails("simple()", IllegalStateException.class, x::simple);
        CHECK.fails("search(0)", IllegalStateException.class, () -> x.search(0));
        CHECK.fails("breaks()", IllegalStateException.class, x::breaks);
        x.type(')');
        CHECK.same("the pattern's text stays: one character makes it a pattern", x.compile(), 5);
    }

    private static void refusedKeepsAll() {
        for (String none : new String[] {"(", "bcd(", "a**", "b|c)", "()()()()", "bbbbbbbbbbbbbbbbbbbbbbbi"}) {
            LinearSearch x = Check.ready(0, "abcdefgh", "abcdefgh");
            String program = Check.listing(x, 9);
            x.search(2);
            Check.typeAll(x, none);
            CHECK.fails("compile() of '" + none + "'", IllegalArgumentException.class, x::compile);
            CHECK.fails("compile() again", IllegalArgumentException.class, x::compile);
            CHECK.same("the program", Check.listing(x, 9), program);
            CHECK.fails("its end", IndexOutOfBoundsException.class, () -> x.instruction(9, 0));
            CHECK.same("the match", Check.slots(x), "0-8 - - -");
            CHECK.same("work()", x.work(), 9);
            CHECK.same("matcher()", x.matcher(), 2);
            CHECK.same("states()", x.states(), 3);
            CHECK.same("flushes()", x.flushes(), 2);
            CHECK.same("simple()", x.simple(), false);
            CHECK.same("search(0)", x.search(0), 0);
            CHECK.same("breaks()", x.breaks(), 1);
        }
        LinearSearch y = Check.compiled(0, "^a");
        Check.typeAll(y, "a(");
        CHECK.fails("compile() behind a simple one", IllegalArgumentException.class, y::compile);
        CHECK.same("it is simple still", y.simple(), true);
    }

    /** Rows are used again, so that what an earlier and longer program had there must not be seen. */
    private static void whatItHasNot() {
        LinearSearch x = Check.compiled(0, "|".repeat(24));
        x.compile();
        Check.typeAll(x, "h.^$(a|b)");
        for (int i = 0; i < 2; i++) {
            int size = x.compile();
            CHECK.same("the program", Check.listing(x, size), "LETTER 7 0, ANY 0 0, FIRST 0 0, LAST 0 0, SAVE 2 0, SPLIT 6 8, "
                + "LETTER 0 0, GO 9 0, LETTER 1 0, SAVE 3 0, FOUND 0 0");
        }
    }

    private static void noSuchInstruction() {
        LinearSearch x = Check.compiled(0, "|".repeat(24));
        x.compile();
        for (int i : new int[] {-1, 49, 50, 64, Integer.MAX_VALUE, Integer.MIN_VALUE}) {
            CHECK.fails("instruction(" + i + ", 0) of 49", IndexOutOfBoundsException.class, () -> x.instruction(i, 0));
        }
        CHECK.same("the last one", x.instruction(48, 0), 7);
        x.wipe();
        x.compile();
        x.compile();
        CHECK.same("the only one", x.instruction(0, 0), 7);
        for (int i : new int[] {-1, 1, 2, 48}) {
            CHECK.fails("instruction(" + i + ", 0) of 1", IndexOutOfBoundsException.class, () -> x.instruction(i, 0));
            CHECK.fails("instruction(" + i + ", 2) of 1", IndexOutOfBoundsException.class, () -> x.instruction(i, 2));
        }
        LinearSearch none = new LinearSearch(0);
        for (int what = 0; what <= 2; what++) {
            int w = what;
            CHECK.fails("instruction(0, " + w + ") of none", IndexOutOfBoundsException.class, () -> none.instruction(0, w));
        }
    }

    private static void noSuchWhat() {
        LinearSearch x = Check.compiled(0, "a|b");
        for (int i = 0; i < 5; i++) {
            int at = i;
            for (int what : new int[] {-1, 3, 4, Integer.MAX_VALUE, Integer.MIN_VALUE}) {
                CHECK.fails("instruction(" + at + ", " + what + ")", IllegalArgumentException.class, () -> x.instruction(at, what));
            }
        }
        CHECK.same("instruction(0, 0)", x.instruction(0, 0), 2);
        CHECK.same("instruction(0, 2)", x.instruction(0, 2), 3);
    }
}
