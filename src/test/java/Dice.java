/** The same numbers in every run, and patterns and texts made of them. */
final class Dice {
    private long state;

    Dice(long seed) {
        state = seed;
    }

    int below(int n) {
        state = state * 6364136223846793005L + 1442695040888963407L;
        return (int) ((state >>> 33) % n);
    }

    String text(int letters) {
        StringBuilder b = new StringBuilder();
        int length = below(21);
        for (int i = 0; i < length; i++) {
            b.append((char) ('a' + below(letters)));
        }
        return b.toString();
    }

    /** A pattern of at most 24 characters; signs only follow what may be empty if emptyLoops. */
    String pattern(int letters, boolean emptyLoops) {
        for (int i = 0; i < 1000; i++) {
            groups = 0;
            String p = (below(3) == 0 ? "^" : "") + choice(letters, 0, emptyLoops);
            if (p.length() <= 24) {
                return p;
            }
        }
        return "a";
    }

    private int groups;
    private boolean mayBeEmpty;

    private String choice(int letters, int depth, boolean emptyLoops) {
        StringBuilder b = new StringBuilder();
        int parts = below(3) == 0 ? 2 + below(2) : 1;
        boolean empty = false;
        for (int i = 0; i < parts; i++) {
            b.append(i == 0 ? "" : "|").append(sequence(letters, depth, emptyLoops));
            empty |= mayBeEmpty;
        }
        mayBeEmpty = empty;
        return b.toString();
    }

    private String sequence(int letters, int depth, boolean emptyLoops) {
        StringBuilder b = new StringBuilder();
        boolean empty = true;
        int pieces = below(5);
        for (int i = 0; i < pieces; i++) {
            b.append(atom(letters, depth, emptyLoops));
            boolean loops = emptyLoops || !mayBeEmpty;
            if (below(5) < 2) {
                char sign = loops ? "?*+".charAt(below(3)) : '?';
                b.append(sign).append(below(3) == 0 ? "?" : "");
                mayBeEmpty |= sign != '+';
            }
            empty &= mayBeEmpty;
        }
        mayBeEmpty = empty;
        return b.toString();
    }

    private String atom(int letters, int depth, boolean emptyLoops) {
        int kind = below(12);
        mayBeEmpty = kind < 2;
        if (kind < 2) {
            return kind == 0 ? "$" : below(3) == 0 ? "^" : "$";
        }
        if (kind < 4) {
            return ".";
        }
        if (kind < 7 && groups < 3 && depth < 3) {
            groups++;
            return "(" + choice(letters, depth + 1, emptyLoops) + ")";
        }
        return "" + (char) ('a' + below(letters));
    }
}
