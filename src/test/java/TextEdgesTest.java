import java.io.IOException;

/** Boundary cases of the text, sentence by sentence: promises 7 and 8. */
public final class TextEdgesTest {
    private static final Check CHECK = new Check("TextEdgesTest");

    public static void main(String[] args) throws IOException {
        Sentences s = new Sentences(CHECK, args);
        s.holds("A letter more of the text: a .. h; false, refused, if it is none", TextEdgesTest::lettersOfTexts);
        s.holds("or there are 20", TextEdgesTest::fullText);
        s.holds("There is no match then, if it is not refused.", TextEdgesTest::feedForgets);
        s.holds("The text is empty; there is no match.", TextEdgesTest::cleared);
        CHECK.end();
    }

    private static void lettersOfTexts() {
        for (char c = 'a'; c <= 'h'; c++) {
            LinearSearch x = Check.compiled(0, "^" + c + "$");
            CHECK.same("feed('" + c + "')", x.feed(c), true);
            CHECK.same("the text is '" + c + "'", x.search(0), 0);
        }
        LinearSearch y = Check.compiled(0, "^$");
        for (int c : new int[] {'`', 'i', 'z', 'A', 'H', '.', '|', '^', ' ', '0', 0, 10, 127, 255, 256 + 'a', 0xffff}) {
            CHECK.same("feed((char) " + c + ")", y.feed((char) c), false);
        }
        CHECK.same("the text is still empty", y.search(0), 0);
    }

    private static void fullText() {
        LinearSearch x = Check.compiled(0, "b");
        for (int i = 1; i <= 20; i++) {
            CHECK.same("feed() of letter " + i, x.feed(i == 20 ? 'b' : 'a'), true);
        }
        CHECK.same("feed() of letter 21", x.feed('c'), false);
        CHECK.same("feed() of letter 22", x.feed('b'), false);
        CHECK.same("what is no letter", x.feed('i'), false);
        CHECK.same("the last letter", x.search(0), 19);
        CHECK.same("how many b", x.breaks(), 1);
        Check.typeAll(x, "$");
        x.compile();
        CHECK.same("the text's end", x.search(0), 20);
        x.clear();
        CHECK.same("feed() behind clear()", x.feed('a'), true);
        CHECK.same("the text's end behind clear()", x.search(0), 1);
    }

    private static void forgotten(String when, LinearSearch x) {
        CHECK.same(when + ": slots", Check.slots(x), "- - - -");
        CHECK.same(when + ": work()", x.work(), -1);
        CHECK.same(when + ": matcher()", x.matcher(), -1);
    }

    private static void kept(String when, LinearSearch x) {
        CHECK.same(when + ": slots", Check.slots(x), "19-20 19-20 - -");
        CHECK.same(when + ": work()", x.work(), 21);
        CHECK.same(when + ": matcher()", x.matcher(), 0);
    }

    private static void feedForgets() {
        LinearSearch x = Check.ready(0, "(b)", "a".repeat(19) + "b");
        x.search(0);
        kept("before", x);
        x.feed('b');
        kept("refused, the text is full", x);
        x.feed('i');
        kept("refused, no letter", x);
        LinearSearch y = Check.ready(0, "(b)", "ab");
        y.search(0);
        y.feed('i');
        CHECK.same("refused, with room", Check.slots(y), "1-2 1-2 - -");
        y.feed('c');
        forgotten("not refused", y);
        CHECK.same("the search can be made again", y.search(0), 1);
    }

    private static void cleared() {
        LinearSearch x = Check.ready(0, "b|$", "a".repeat(19) + "b");
        x.search(2);
        int states = x.states();
        x.clear();
        forgotten("clear() of a full one", x);
        CHECK.same("the states stay", x.states(), states);
        CHECK.same("the text's end", x.search(0), 0);
        x.clear();
        forgotten("clear() of an empty one", x);
        for (int i = 1; i <= 20; i++) {
            CHECK.same("feed() of letter " + i, x.feed('a'), true);
        }
        CHECK.same("feed() of letter 21", x.feed('a'), false);
        CHECK.same("no old letter is seen", x.search(0), 20);
    }
}
