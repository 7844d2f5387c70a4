/** What the tests share: counting of wrong answers, and short ways to type patterns and feed texts. */
final class Check {
    /** A call that may throw. */
    interface Call {
        Object make();
    }

    private final String name;
    private String subject = "";
    private int checks;
    private int wrong;

    Check(String name) {
        this.name = name;
    }

    void same(String what, Object got, Object want) {
        checks++;
        if (!want.equals(got)) {
            wrong++;
            System.out.println(name + ": " + subject + what + " answered " + got + ", due is " + want);
        }
    }

    /** What the checks from here on are about, to be told with each wrong answer. */
    void about(String newSubject) {
        subject = newSubject + ": ";
    }

    int count() {
        return checks;
    }

    void fails(String what, Class<? extends RuntimeException> want, Call call) {
        same(what, outcome(call), want.getSimpleName());
    }

    /** Ends the test program, with exit code 1 if an answer was wrong. */
    void end() {
        System.out.println(name + ": " + checks + " checks, " + wrong + " wrong");
        if (wrong != 0) {
            System.exit(1);
        }
    }

    static Object outcome(Call call) {
        try {
            return call.make();
        } catch (RuntimeException e) {
            return e.getClass().getSimpleName();
        }
    }

    static void typeAll(LinearSearch x, String pattern) {
        x.wipe();
        for (int i = 0; i < pattern.length(); i++) {
            x.type(pattern.charAt(i));
        }
    }

    static void feedAll(LinearSearch x, String text) {
        x.clear();
        for (int i = 0; i < text.length(); i++) {
            x.feed(text.charAt(i));
        }
    }

    static LinearSearch compiled(int limit, String pattern) {
        LinearSearch x = new LinearSearch(limit);
        typeAll(x, pattern);
        x.compile();
        return x;
    }

    /** How many instructions the pattern has; the exception's name if it is none. */
    static Object size(String pattern) {
        LinearSearch x = new LinearSearch(0);
        typeAll(x, pattern);
        return outcome(x::compile);
    }

    static LinearSearch ready(int limit, String pattern, String text) {
        LinearSearch x = compiled(limit, pattern);
        feedAll(x, text);
        return x;
    }

    /** The slots of groups 0 .. 3, as begin-end, with - for what was not noted. */
    static String slots(LinearSearch x) {
        StringBuilder b = new StringBuilder();
        for (int g = 0; g <= 3; g++) {
            int begin = x.slot(g, false);
            int end = x.slot(g, true);
            b.append(g == 0 ? "" : " ").append(begin < 0 ? "" : "" + begin).append('-').append(end < 0 ? "" : "" + end);
        }
        return b.toString();
    }

    /** The program as text, as in "SPLIT 1 3, LETTER 0, ..". */
    static String listing(LinearSearch x, int size) {
        String[] names = {"LETTER", "ANY", "SPLIT", "GO", "SAVE", "FIRST", "LAST", "FOUND"};
        StringBuilder b = new StringBuilder();
        for (int i = 0; i < size; i++) {
            b.append(i == 0 ? "" : ", ").append(names[x.instruction(i, 0)]);
            b.append(' ').append(x.instruction(i, 1)).append(' ').append(x.instruction(i, 2));
        }
        return b.toString();
    }
}
