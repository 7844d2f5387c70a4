/** Runs of random calls, whose answers are compared with the Model's. */
public final class ModelTest {
    private static final Check CHECK = new Check("ModelTest");
    private static final int RUNS = 3000;
    private static final int CALLS = 110;

    public static void main(String[] args) {
        for (int run = 0; run < RUNS; run++) {
            new ModelTest(run).run();
        }
        CHECK.end();
    }

    private final Dice dice;
    private final LinearSearch x;
    private final Model model;
    private final String name;
    private final int letters;

    private ModelTest(int run) {
        dice = new Dice(run * 7919L + 17);
        for (int i = 0; i < 5; i++) {
            dice.below(2);
        }
        int limit = dice.below(2) == 0 ? dice.below(4) : dice.below(80) - 40;
        letters = 1 + dice.below(3) + (dice.below(6) == 0 ? 4 : 0);
        x = new LinearSearch(limit);
        model = new Model(limit);
        name = "run " + run + ", ";
    }

    private void run() {
        for (int i = 0; i < CALLS; i++) {
            int kind = dice.below(30);
            if (kind < 4) {
                newPattern();
            } else if (kind < 8) {
                newText();
            } else {
                call(kind);
            }
            compareAnswers(name + "call " + i + " of kind " + kind);
        }
    }

    private void newPattern() {
        if (dice.below(8) > 0) {
            x.wipe();
            model.wipe();
        }
        String p = dice.pattern(letters, true);
        if (dice.below(8) == 0 && !p.isEmpty()) {
            int cut = dice.below(p.length());
            p = p.substring(0, cut) + "|)(*?+.^$ai".charAt(dice.below(11)) + p.substring(cut + dice.below(2));
        }
        for (char c : p.toCharArray()) {
            CHECK.same(name + "type " + c, x.type(c), model.type(c));
        }
        CHECK.same(name + "compile " + p, Check.outcome(x::compile), model.compile());
        for (int i = -1; i < 51; i++) {
            for (int what = -1; what < 4; what++) {
                int n = i;
                int w = what;
                CHECK.same(name + "instruction " + n + " " + w + " of " + p, Check.outcome(() -> x.instruction(n, w)),
                    model.instruction(n, w));
            }
        }
        CHECK.same(name + "simple " + p, Check.outcome(x::simple), model.simple());
    }

    private void newText() {
        if (dice.below(4) > 0) {
            x.clear();
            model.clear();
        }
        for (char c : dice.text(letters).toCharArray()) {
            CHECK.same(name + "feed " + c, x.feed(c), model.feed(c));
        }
    }

    private void call(int kind) {
        if (kind == 8) {
            CHECK.same(name + "breaks", Check.outcome(x::breaks), model.breaks());
        } else if (kind == 9) {
            char c = "aahi`A".charAt(dice.below(6));
            CHECK.same(name + "feed " + c, x.feed(c), model.feed(c));
        } else {
            int which = dice.below(40) == 0 ? dice.below(20) - 10 : dice.below(3) == 0 ? 2 : dice.below(5);
            CHECK.same(name + "search " + which, Check.outcome(() -> x.search(which)), model.search(which));
        }
    }

    private void compareAnswers(String when) {
        CHECK.same(when + ": work", x.work(), model.work());
        CHECK.same(when + ": matcher", x.matcher(), model.matcher());
        CHECK.same(when + ": states", x.states(), model.states());
        CHECK.same(when + ": flushes", x.flushes(), model.flushes());
        for (int g = -1; g <= 4; g++) {
            int group = g;
            CHECK.same(when + ": slot " + g, Check.outcome(() -> x.slot(group, false)), model.slot(g, false));
            CHECK.same(when + ": slot end " + g, Check.outcome(() -> x.slot(group, true)), model.slot(g, true));
        }
    }
}
