/** Promises 7 and 8: feed, clear. */
public final class TextTest {
    private static final Check CHECK = new Check("TextTest");

    public static void main(String[] args) {
        letters();
        room();
        feedForgets();
        refusedFeedKeeps();
        clearForgets();
        CHECK.end();
    }

    private static void letters() {
        LinearSearch x = new LinearSearch(0);
        for (char c = 'a'; c <= 'h'; c++) {
            CHECK.same("feed " + c, x.feed(c), true);
        }
        for (int c : new int[] {'i', '`', 'A', 'H', '.', '|', ' ', 0, 255, 0x161, 0xffff}) {
            CHECK.same("feed " + c, x.feed((char) c), false);
        }
        Check.typeAll(x, "^abcdefgh$");
        x.compile();
        CHECK.same("feed: the letters in their order, the refused ones not", x.search(0), 0);
    }

    private static void room() {
        LinearSearch x = Check.compiled(0, "b");
        for (int i = 0; i < 20; i++) {
            CHECK.same("feed the letter " + i, x.feed(i == 19 ? 'b' : 'a'), true);
        }
        CHECK.same("feed the 21st letter", x.feed('b'), false);
        CHECK.same("feed: the text is not longer", x.search(0), 19);
        CHECK.same("feed: refused when it is full", x.feed('b'), false);
        CHECK.same("feed: refused keeps the match", Check.slots(x), "19-20 - - -");
        x.clear();
        CHECK.same("clear makes room", x.feed('b'), true);
        CHECK.same("clear: the old letters are gone", x.search(0), 0);
        CHECK.same("clear: one letter alone", x.breaks(), 1);
    }

    private static void feedForgets() {
        LinearSearch x = Check.ready(0, "(a)", "ba");
        x.search(2);
        CHECK.same("before feed", Check.slots(x), "1-2 1-2 - -");
        CHECK.same("feed", x.feed('a'), true);
        CHECK.same("feed: no match", Check.slots(x), "- - - -");
        CHECK.same("feed: no work", x.work(), -1);
        CHECK.same("feed: no matcher", x.matcher(), -1);
        CHECK.same("feed: states stay", x.states(), 2);
        CHECK.same("feed: the program stays", x.instruction(1, 0), 0);
    }

    private static void refusedFeedKeeps() {
        LinearSearch x = Check.ready(0, "(a)", "ba");
        x.search(1);
        CHECK.same("refused feed", x.feed('i'), false);
        CHECK.same("refused feed: match", Check.slots(x), "1-2 1-2 - -");
        CHECK.same("refused feed: work", x.work(), 6);
        CHECK.same("refused feed: matcher", x.matcher(), 1);
    }

    private static void clearForgets() {
        LinearSearch x = Check.ready(0, "abcdefgh", "abcdefgh");
        x.search(2);
        x.clear();
        CHECK.same("clear: no match", Check.slots(x), "- - - -");
        CHECK.same("clear: no work", x.work(), -1);
        CHECK.same("clear: no matcher", x.matcher(), -1);
        CHECK.same("clear: states stay", x.states(), 3);
        CHECK.same("clear: flushes stay", x.flushes(), 2);
        CHECK.same("clear: the text is empty", x.search(0), -1);
        CHECK.same("clear: work on the empty text", x.work(), 1);
        x.clear();
        CHECK.same("clear of the empty text: no work", x.work(), -1);
        CHECK.same("clear: the pattern's text stays", x.compile(), 9);
    }
}
