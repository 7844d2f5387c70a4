/** Promises 1 to 6: a new object, type, wipe, compile, instruction, simple. */
public final class PatternTest {
    private static final Check CHECK = new Check("PatternTest");

    public static void main(String[] args) {
        newObject();
        typing();
        wiping();
        programs();
        refusedPatterns();
        refusedCompileKeepsAll();
        compileForgets();
        instructions();
        simplePatterns();
        CHECK.end();
    }

    private static void newObject() {
        LinearSearch x = new LinearSearch(7);
        CHECK.same("new: work", x.work(), -1);
        CHECK.same("new: matcher", x.matcher(), -1);
        CHECK.same("new: states", x.states(), 0);
        CHECK.same("new: flushes", x.flushes(), 0);
        CHECK.same("new: slots", Check.slots(x), "- - - -");
        CHECK.fails("new: instruction(0, 0)", IndexOutOfBoundsException.class, () -> x.instruction(0, 0));
        CHECK.fails("new: simple", IllegalStateException.class, x::simple);
        CHECK.fails("new: breaks", IllegalStateException.class, x::breaks);
        CHECK.fails("new: search(0)", IllegalStateException.class, () -> x.search(0));
        CHECK.same("new: the pattern is empty", x.compile(), 1);
        CHECK.same("new: the text is empty", x.breaks(), 1);
        limits();
    }

    /** Twenty a as pattern and text need 21 states, so that flushes come when so many as the limit are kept. */
    private static void limits() {
        int[][] rows = {
            {15, 3, 1}, {-1, 3, 1}, {31, 3, 1}, {14, 4, 1}, {13, 5, 1}, {8, 10, 1}, {7, 1, 2}, {4, 7, 2},
            {3, 0, 3}, {0, 0, 3}, {16, 0, 3}, {Integer.MIN_VALUE, 0, 3}};
        for (int[] row : rows) {
            LinearSearch x = Check.ready(row[0], "a".repeat(20), "a".repeat(20));
            CHECK.same("limit " + row[0] + ": search", x.search(2), 0);
            CHECK.same("limit " + row[0] + ": states", x.states(), row[1]);
            CHECK.same("limit " + row[0] + ": flushes", x.flushes(), row[2]);
            CHECK.same("limit " + row[0] + ": matcher", x.matcher(), row[1] == 0 ? 0 : 2);
        }
    }

    private static void typing() {
        LinearSearch x = new LinearSearch(0);
        for (int i = 0; i < 24; i++) {
            CHECK.same("type " + i, x.type('|'), true);
        }
        CHECK.same("type: the 25th", x.type('a'), false);
        CHECK.same("type: the longest program", x.compile(), 49);
        CHECK.same("type: the 26th", x.type('a'), false);
        LinearSearch y = new LinearSearch(0);
        CHECK.same("type: what is in no pattern", y.type('i'), true);
        CHECK.fails("type: it is refused later", IllegalArgumentException.class, y::compile);
    }

    private static void wiping() {
        LinearSearch x = Check.ready(5, "ab", "cab");
        CHECK.same("wipe: search before", x.search(2), 1);
        x.wipe();
        CHECK.same("wipe: the program stays", Check.listing(x, 3), "LETTER 0 0, LETTER 1 0, FOUND 0 0");
        CHECK.same("wipe: the match stays", Check.slots(x), "1-3 - - -");
        CHECK.same("wipe: the work stays", x.work(), 3);
        CHECK.same("wipe: the states stay", x.states(), 3);
        CHECK.same("wipe: type from the beginning", x.type('c'), true);
        CHECK.same("wipe: compile the new one", x.compile(), 2);
        CHECK.same("wipe: its letter", x.instruction(0, 1), 2);
        for (int i = 1; i < 24; i++) {
            x.type('a');
        }
        CHECK.same("wipe: full", x.type('a'), false);
        x.wipe();
        CHECK.same("wipe: not full", x.type('a'), true);
    }

    private static void program(String pattern, String want) {
        LinearSearch x = new LinearSearch(0);
        Check.typeAll(x, pattern);
        int size = x.compile();
        CHECK.same("program of " + pattern, Check.listing(x, size), want);
        CHECK.fails("end of " + pattern, IndexOutOfBoundsException.class, () -> x.instruction(size, 0));
    }

    private static void programs() {
        program("", "FOUND 0 0");
        program("ah", "LETTER 0 0, LETTER 7 0, FOUND 0 0");
        program("^.$", "FIRST 0 0, ANY 0 0, LAST 0 0, FOUND 0 0");
        program("a?", "SPLIT 1 2, LETTER 0 0, FOUND 0 0");
        program("a??", "SPLIT 2 1, LETTER 0 0, FOUND 0 0");
        program("a*", "SPLIT 1 3, LETTER 0 0, GO 0 0, FOUND 0 0");
        program("a*?", "SPLIT 3 1, LETTER 0 0, GO 0 0, FOUND 0 0");
        program("a+", "LETTER 0 0, SPLIT 0 2, FOUND 0 0");
        program("a+?", "LETTER 0 0, SPLIT 2 0, FOUND 0 0");
        program("b^*", "LETTER 1 0, SPLIT 2 4, FIRST 0 0, GO 1 0, FOUND 0 0");
        program("$?", "SPLIT 1 2, LAST 0 0, FOUND 0 0");
        program("|", "SPLIT 1 2, GO 2 0, FOUND 0 0");
        program("a|b|c", "SPLIT 1 3, LETTER 0 0, GO 7 0, SPLIT 4 6, LETTER 1 0, GO 7 0, LETTER 2 0, FOUND 0 0");
        program("()", "SAVE 2 0, SAVE 3 0, FOUND 0 0");
        program("()*", "SPLIT 1 4, SAVE 2 0, SAVE 3 0, GO 0 0, FOUND 0 0");
        program("a*|b", "SPLIT 1 5, SPLIT 2 4, LETTER 0 0, GO 1 0, GO 6 0, LETTER 1 0, FOUND 0 0");
        program("a(b|c)*?d", "LETTER 0 0, SPLIT 9 2, SAVE 2 0, SPLIT 4 6, LETTER 1 0, GO 7 0, LETTER 2 0, SAVE 3 0, "
            + "GO 1 0, LETTER 3 0, FOUND 0 0");
        program("((a)|(b))+", "SAVE 2 0, SPLIT 2 6, SAVE 4 0, LETTER 0 0, SAVE 5 0, GO 9 0, SAVE 6 0, LETTER 1 0, "
            + "SAVE 7 0, SAVE 3 0, SPLIT 0 11, FOUND 0 0");
        program("(((a?)*)+)?", "SPLIT 1 12, SAVE 2 0, SAVE 4 0, SPLIT 4 9, SAVE 6 0, SPLIT 6 7, LETTER 0 0, SAVE 7 0, "
            + "GO 3 0, SAVE 5 0, SPLIT 2 11, SAVE 3 0, FOUND 0 0");
        program("(a|b+)?|c", "SPLIT 1 10, SPLIT 2 9, SAVE 2 0, SPLIT 4 6, LETTER 0 0, GO 8 0, LETTER 1 0, SPLIT 6 8, "
            + "SAVE 3 0, GO 11 0, LETTER 2 0, FOUND 0 0");
    }

    private static void refusedPatterns() {
        String[] none = {"(", ")", "a)", "(a", "((a)", "(a))", "?", "*a", "+", "|*", "(*)", "(?a)", "a**", "a*+", "a+*",
            "a???", "a*??", "a+?+", "i", "A", "aXb", "a b", "[a]", "()()()()", "((((a))))", "a|b)", "(|", "\u0000", "a\u0000",
            "\u0161", "`", "^?**"};
        for (String pattern : none) {
            LinearSearch x = new LinearSearch(0);
            Check.typeAll(x, pattern);
            CHECK.fails("compile " + pattern, IllegalArgumentException.class, x::compile);
        }
        String[] some = {"()()()", "(((a)))", "(|)", "||", "a|", "|a", "^^", "$$", "$^", "^*?$+?", ".+?", "h"};
        for (String pattern : some) {
            LinearSearch x = new LinearSearch(0);
            Check.typeAll(x, pattern);
            CHECK.same("compile " + pattern, Check.outcome(x::compile) instanceof Integer, true);
        }
    }

    private static void refusedCompileKeepsAll() {
        LinearSearch x = Check.ready(0, "abcdefgh", "abcdefgh");
        x.search(2);
        Check.typeAll(x, "(a");
        CHECK.fails("refused compile", IllegalArgumentException.class, x::compile);
        CHECK.same("refused: program", x.instruction(8, 0), 7);
        CHECK.same("refused: slots", Check.slots(x), "0-8 - - -");
        CHECK.same("refused: work", x.work(), 9);
        CHECK.same("refused: matcher", x.matcher(), 2);
        CHECK.same("refused: states", x.states(), 3);
        CHECK.same("refused: flushes", x.flushes(), 2);
        CHECK.same("refused: simple", x.simple(), false);
        CHECK.same("refused: search goes on", x.search(1), 0);
        CHECK.fails("refused twice", IllegalArgumentException.class, x::compile);
        LinearSearch y = Check.compiled(0, "^a");
        Check.typeAll(y, "a(");
        CHECK.fails("refused compile", IllegalArgumentException.class, y::compile);
        CHECK.same("refused: still simple", y.simple(), true);
    }

    private static void compileForgets() {
        LinearSearch x = Check.ready(0, "abcdefgh", "abcdefgh");
        x.search(2);
        CHECK.same("compile again", x.compile(), 9);
        CHECK.same("compiled: slots", Check.slots(x), "- - - -");
        CHECK.same("compiled: work", x.work(), -1);
        CHECK.same("compiled: matcher", x.matcher(), -1);
        CHECK.same("compiled: states", x.states(), 0);
        CHECK.same("compiled: flushes", x.flushes(), 0);
        CHECK.same("compiled: the text stays", x.search(0), 0);
    }

    private static void instructions() {
        LinearSearch x = Check.compiled(0, "a|b");
        CHECK.same("instruction(0, 0)", x.instruction(0, 0), 2);
        CHECK.same("instruction(0, 1)", x.instruction(0, 1), 1);
        CHECK.same("instruction(0, 2)", x.instruction(0, 2), 3);
        CHECK.same("instruction(3, 1)", x.instruction(3, 1), 1);
        CHECK.same("instruction(3, 2)", x.instruction(3, 2), 0);
        for (int i : new int[] {-1, 5, 6, 49, 50, Integer.MAX_VALUE, Integer.MIN_VALUE}) {
            CHECK.fails("instruction(" + i + ", 0)", IndexOutOfBoundsException.class, () -> x.instruction(i, 0));
            CHECK.fails("instruction(" + i + ", 3)", IndexOutOfBoundsException.class, () -> x.instruction(i, 3));
        }
        for (int what : new int[] {-1, 3, 4, Integer.MAX_VALUE, Integer.MIN_VALUE}) {
            CHECK.fails("instruction(0, " + what + ")", IllegalArgumentException.class, () -> x.instruction(0, what));
        }
        Check.typeAll(x, "c");
        x.compile();
        CHECK.fails("a shorter program's end", IndexOutOfBoundsException.class, () -> x.instruction(2, 0));
    }

    private static void simplePatterns() {
        String[] simple = {"^", "^a", "^$", "^a*b", "^a*$", "^(a|b)*$", "^.", "^.*", "^.*$", "^a?b?c?", "^a+b", "^(a|b|c)+?d",
            "^a*^b", "^a$b", "^(a(b|c)?d)*", "^a.b", "^^", "^a??", "^($|a)"};
        String[] not = {"", "a", "$", "(^a)", "^a|b", "^*a", "^?a", "^+a", "^+?a", "^(a|ab)", "^a*a", "^a?.", "^.?a", "^.*.",
            "^(|)", "^(a*)*", "^(a?)+", "^()*", "^b(a|.)", "^ba*a", "^.(a|b|a)", "a^", "^c(.|.)", "^a(|$)"};
        for (String pattern : simple) {
            CHECK.same("simple " + pattern, Check.compiled(0, pattern).simple(), true);
        }
        for (String pattern : not) {
            CHECK.same("simple " + pattern, Check.compiled(0, pattern).simple(), false);
        }
        CHECK.fails("simple of none", IllegalStateException.class, () -> new LinearSearch(0).simple());
    }
}
