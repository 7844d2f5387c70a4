import java.io.IOException;

/** Boundary cases of simple patterns, sentence by sentence: MATCHERS, 3 SINGLE, and promise 6. */
public final class SimpleEdgesTest {
    private static final Check CHECK = new Check("SimpleEdgesTest");

    public static void main(String[] args) throws IOException {
        Sentences s = new Sentences(CHECK, args);
        s.holds("its program begins with FIRST", SimpleEdgesTest::beginsWithFirst);
        s.holds("from each instruction behind a LETTER or ANY, and from 0, following", SimpleEdgesTest::fromEach);
        s.holds("(FIRST and LAST are gone on from)", SimpleEdgesTest::firstAndLastGoOn);
        s.holds("comes to no instruction twice", SimpleEdgesTest::noneTwice);
        s.holds("to no two LETTERs with one letter", SimpleEdgesTest::noLetterTwice);
        s.holds("if to an ANY, to no other LETTER or ANY", SimpleEdgesTest::anyAlone);
        s.holds("Whether the compiled pattern is simple. IllegalStateException if there is none.", SimpleEdgesTest::noneCompiled);
        CHECK.end();
    }

    private static void simple(boolean want, String... patterns) {
        for (String pattern : patterns) {
            CHECK.same("simple() of '" + pattern + "'", Check.compiled(0, pattern).simple(), want);
        }
    }

    private static void beginsWithFirst() {
        simple(true, "^", "^a", "^$", "^^");
        simple(false, "", "a", "$", ".", "a^", "$^", "(^)", "(^a)", "^|", "^a|^b", "|^", "^?", "^*", "^?a");
    }

    private static void fromEach() {
        simple(true, "^a?b", "^ca?b", "^.a?b", "^ca?");
        simple(false, "^a?a", "^ca?a", "^.a?a", "^cb(|)", "^.(|)", "^a".concat("b".repeat(19)).concat("c?c"));
        simple(true, "^aa", "^a.", "^.a", "^(a)(a)(a)");
    }

    private static void firstAndLastGoOn() {
        simple(true, "^a?$b", "^b(a|^c)", "^$", "^$$^", "^($|a)", "^a*$");
        simple(false, "^a?$a", "^b(a|^a)", "^(.|$a)", "^b(^.|a)", "^a($|)", "^a(^|)");
    }

    private static void noneTwice() {
        simple(true, "^()", "^(a|)", "^(a|b)c", "^a*", "^(a+)", "^(a|b)*", "^(a|b)+c");
        simple(false, "^(|)", "^()*", "^()+", "^()?", "^+", "^(a*)*", "^(a?)*", "^(a*)+", "^(a?)+", "^($)?", "^(a|b*)?");
        simple(false, "^a(|)", "^a()*", "^a(b*)*", "^.(|)", "^a^?", "^a$?");
    }

    private static void noLetterTwice() {
        simple(true, "^(a|b|c|d|e|f|g|h)", "^a?b?c?d?e?f?g?h?", "^g?h", "^a?b");
        simple(false, "^(a|a)", "^(a|b|c|d|e|f|g|h|h)", "^(a|b|c|d|e|f|g|h|a)", "^h?h", "^a*a", "^a+a", "^(ab|ac)");
    }

    private static void anyAlone() {
        simple(true, "^.", "^..", "^.*", "^.+", "^.?", "^.?$", "^(.|$)", "^a.", "^.a");
        simple(false, "^.?a", "^a?.", "^.?.", "^(.|a)", "^(a|.)", "^(.|.)", "^.*a", "^.*.", "^b(h|.)", "^.+.");
    }

    private static void noneCompiled() {
        LinearSearch x = new LinearSearch(0);
        CHECK.fails("simple() of a new object", IllegalStateException.class, x::simple);
        Check.typeAll(x, "^(");
        CHECK.fails("simple() of what is typed, but not compiled", IllegalStateException.class, x::simple);
        CHECK.fails("compile()", IllegalArgumentException.class, x::compile);
        CHECK.fails("simple() behind a refused compile()", IllegalStateException.class, x::simple);
        Check.typeAll(x, "^a");
        x.compile();
        CHECK.same("simple()", x.simple(), true);
        Check.typeAll(x, "a");
        CHECK.same("simple() of the compiled one, not of what is typed", x.simple(), true);
        x.compile();
        CHECK.same("simple() of the new one", x.simple(), false);
        Check.typeAll(x, "^(|)");
        x.compile();
        CHECK.same("simple() of one that comes to an instruction twice", x.simple(), false);
        Check.typeAll(x, "^a");
        x.compile();
        CHECK.same("simple() of the first one again", x.simple(), true);
    }
}
