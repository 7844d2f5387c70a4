import java.util.ArrayList;
import java.util.HashSet;
import java.util.LinkedHashSet;
import java.util.List;
import java.util.Set;

/**
 * The document once more, written apart from the class and as plainly as can be, with trees, sets and copies of rows:
 * the random tests compare the two. Answers are ints (a boolean is 1 or 0) or names of exceptions.
 */
final class Model {
    private final int limit;
    private String pattern = "";
    private String text = "";
    private List<int[]> code = new ArrayList<>();
    private int[] match;
    private int work = -1;
    private int matcher = -1;
    private Set<String> states = new LinkedHashSet<>();
    private int flushes;

    private String source;
    private int at;
    private int groups;
    private boolean cameTwice;

    Model(int limit) {
        this.limit = 3 + Math.floorMod(limit, 16);
    }

    // ---- pattern ----

    Object type(char c) {
        if (pattern.length() == 24) {
            return false;
        }
        pattern += c;
        return true;
    }

    void wipe() {
        pattern = "";
    }

    /** A part of a pattern: a letter, '.', '^', '$', 'G'roup, 'S'equence, 'C'hoice, '?', '*', '+'. */
    private record Node(char kind, boolean lazy, int number, List<Node> parts) {
    }

    private static final class NoPattern extends Exception {
        private static final long serialVersionUID = 1L;
    }

    Object compile() {
        source = pattern;
        at = 0;
        groups = 0;
        Node tree;
        try {
            tree = choice();
            if (at < source.length()) {
                throw new NoPattern();
            }
        } catch (NoPattern e) {
            return "IllegalArgumentException";
        }
        code = new ArrayList<>();
        code.addAll(codeOf(tree, 0));
        code.add(new int[] {7, 0, 0});
        states.clear();
        flushes = 0;
        forget();
        return code.size();
    }

    private boolean sees(String some) {
        return at < source.length() && some.indexOf(source.charAt(at)) >= 0;
    }

    private Node choice() throws NoPattern {
        List<Node> parts = new ArrayList<>();
        parts.add(sequence());
        while (sees("|")) {
            at++;
            parts.add(sequence());
        }
        return new Node('C', false, 0, parts);
    }

    private Node sequence() throws NoPattern {
        List<Node> parts = new ArrayList<>();
        while (at < source.length() && !sees("|)")) {
            Node atom = atom();
            if (sees("?*+")) {
                char sign = source.charAt(at++);
                boolean lazy = sees("?");
                at += lazy ? 1 : 0;
                atom = new Node(sign, lazy, 0, List.of(atom));
            }
            parts.add(atom);
        }
        return new Node('S', false, 0, parts);
    }

    private Node atom() throws NoPattern {
        if (sees("abcdefgh.^$")) {
            return new Node(source.charAt(at++), false, 0, List.of());
        }
        if (!sees("(") || groups == 3) {
            throw new NoPattern();
        }
        at++;
        int number = ++groups;
        Node inner = choice();
        if (!sees(")")) {
            throw new NoPattern();
        }
        at++;
        return new Node('G', false, number, List.of(inner));
    }

    private static int[] of(int kind, int x, int y) {
        return new int[] {kind, x, y};
    }

    /** The code of a tree that begins at a place: sizes do not depend on places, so it can be made of its parts. */
    private static List<int[]> codeOf(Node n, int from) {
        List<int[]> out = new ArrayList<>();
        switch (n.kind) {
            case '.' -> out.add(of(1, 0, 0));
            case '^' -> out.add(of(5, 0, 0));
            case '$' -> out.add(of(6, 0, 0));
            case 'G' -> {
                out.add(of(4, 2 * n.number, 0));
                out.addAll(codeOf(n.parts.get(0), from + 1));
                out.add(of(4, 2 * n.number + 1, 0));
            }
            case 'S' -> {
                for (Node part : n.parts) {
                    out.addAll(codeOf(part, from + out.size()));
                }
            }
            case 'C' -> out.addAll(codeOfChoice(n.parts, from));
            case '?', '*' -> {
                List<int[]> e = codeOf(n.parts.get(0), from + 1);
                int behind = from + 1 + e.size() + (n.kind == '*' ? 1 : 0);
                out.add(n.lazy ? of(2, behind, from + 1) : of(2, from + 1, behind));
                out.addAll(e);
                if (n.kind == '*') {
                    out.add(of(3, from, 0));
                }
            }
            case '+' -> {
                out.addAll(codeOf(n.parts.get(0), from));
                int behind = from + out.size() + 1;
                out.add(n.lazy ? of(2, behind, from) : of(2, from, behind));
            }
            default -> out.add(of(0, n.kind - 'a', 0));
        }
        return out;
    }

    private static List<int[]> codeOfChoice(List<Node> parts, int from) {
        if (parts.size() == 1) {
            return codeOf(parts.get(0), from);
        }
        List<int[]> one = codeOf(parts.get(0), from + 1);
        int others = from + 1 + one.size() + 1;
        List<int[]> rest = codeOfChoice(parts.subList(1, parts.size()), others);
        List<int[]> out = new ArrayList<>();
        out.add(of(2, from + 1, others));
        out.addAll(one);
        out.add(of(3, others + rest.size(), 0));
        out.addAll(rest);
        return out;
    }

    Object instruction(int i, int what) {
        if (i < 0 || i >= code.size()) {
            return "IndexOutOfBoundsException";
        }
        return what < 0 || what > 2 ? "IllegalArgumentException" : (Object) code.get(i)[what];
    }

    // ---- text and answers ----

    private void forget() {
        match = null;
        work = -1;
        matcher = -1;
    }

    Object feed(char c) {
        if (c < 'a' || c > 'h' || text.length() == 20) {
            return false;
        }
        text += c;
        forget();
        return true;
    }

    void clear() {
        text = "";
        forget();
    }

    Object slot(int group, boolean end) {
        if (group < 0 || group > 3) {
            return "IndexOutOfBoundsException";
        }
        return match == null ? -1 : match[2 * group + (end ? 1 : 0)];
    }

    int work() {
        return work;
    }

    int matcher() {
        return matcher;
    }

    int states() {
        return states.size();
    }

    int flushes() {
        return flushes;
    }

    // ---- following ----

    private record Entry(int pc, int[] slots) {
    }

    /** How LAST is dealt with: 0 stops, 1 goes on, 2 stands. */
    private void follow(int pc, int place, int[] slots, int last, Set<Integer> marks, List<Entry> list) {
        if (!marks.add(pc)) {
            cameTwice = true;
            return;
        }
        int[] c = code.get(pc);
        switch (c[0]) {
            case 2 -> {
                follow(c[1], place, slots, last, marks, list);
                follow(c[2], place, slots, last, marks, list);
            }
            case 3 -> follow(c[1], place, slots, last, marks, list);
            case 4 -> {
                int[] noted = slots.clone();
                noted[c[1]] = place;
                follow(pc + 1, place, noted, last, marks, list);
            }
            case 5 -> {
                if (place == 0) {
                    follow(pc + 1, place, slots, last, marks, list);
                }
            }
            case 6 -> {
                if (last == 1) {
                    follow(pc + 1, place, slots, last, marks, list);
                } else if (last == 2) {
                    list.add(new Entry(pc, slots));
                }
            }
            default -> list.add(new Entry(pc, slots));
        }
    }

    private boolean right(int pc, int place) {
        int[] c = code.get(pc);
        return place < text.length() && (c[0] == 1 || (c[0] == 0 && text.charAt(place) == 'a' + c[1]));
    }

    private static int[] slotsAt(int place) {
        return new int[] {place, -1, -1, -1, -1, -1, -1, -1};
    }

    private int lastAt(int place) {
        return place == text.length() ? 1 : 0;
    }

    // ---- matchers ----

    private int passed;

    private int[] lists(int from, boolean onward) {
        passed = 0;
        int[] best = null;
        List<Entry> list = new ArrayList<>();
        follow(0, from, slotsAt(from), lastAt(from), new HashSet<>(), list);
        for (int place = from; place <= text.length(); place++) {
            List<Entry> next = new ArrayList<>();
            Set<Integer> marks = new HashSet<>();
            for (Entry e : list) {
                passed++;
                if (code.get(e.pc)[0] == 7) {
                    best = e.slots.clone();
                    best[1] = place;
                    break;
                }
                if (right(e.pc, place)) {
                    follow(e.pc + 1, place + 1, e.slots, lastAt(place + 1), marks, next);
                }
            }
            if (best == null && onward && place < text.length()) {
                follow(0, place + 1, slotsAt(place + 1), lastAt(place + 1), marks, next);
            }
            list = next;
        }
        return best;
    }

    private Set<String> marksSet;

    private int[] thread(int pc, int place, int[] slots) {
        if (!marksSet.add(pc + " " + place)) {
            return null;
        }
        int[] c = code.get(pc);
        int[] copy = slots.clone();
        switch (c[0]) {
            case 2: {
                int[] one = thread(c[1], place, slots);
                return one != null ? one : thread(c[2], place, slots);
            }
            case 3:
                return thread(c[1], place, slots);
            case 4:
                copy[c[1]] = place;
                return thread(pc + 1, place, copy);
            case 5:
                return place == 0 ? thread(pc + 1, place, slots) : null;
            case 6:
                return place == text.length() ? thread(pc + 1, place, slots) : null;
            case 7:
                copy[1] = place;
                return copy;
            default:
                return right(pc, place) ? thread(pc + 1, place + 1, slots) : null;
        }
    }

    private int[] marks() {
        marksSet = new HashSet<>();
        int[] found = null;
        for (int from = 0; from <= text.length() && found == null; from++) {
            found = thread(0, from, slotsAt(from));
        }
        return found;
    }

    private record State(List<Integer> entries, boolean open, boolean found) {
        String name() {
            return entries + " " + open;
        }
    }

    private int made;
    private int flushesHere;

    /** Without a memory of leads: what is kept, is kept by its name, and what is known is only not counted. */
    private State keep(List<Entry> list, boolean open) {
        List<Integer> entries = new ArrayList<>();
        boolean found = false;
        for (Entry e : list) {
            entries.add(e.pc);
            if (code.get(e.pc)[0] == 7) {
                found = true;
                break;
            }
        }
        State state = new State(entries, open, found);
        if (!states.contains(state.name())) {
            if (states.size() == limit) {
                states.clear();
                flushes++;
                flushesHere++;
                if (flushesHere == 3) {
                    return null;
                }
            }
            states.add(state.name());
            made++;
        }
        return state;
    }

    private State next(State state, int place) {
        List<Entry> list = new ArrayList<>();
        Set<Integer> marks = new HashSet<>();
        for (int pc : state.entries) {
            if (right(pc, place)) {
                follow(pc + 1, place + 1, slotsAt(0), 2, marks, list);
            }
        }
        boolean open = state.open && !state.found;
        if (open) {
            follow(0, place + 1, slotsAt(0), 2, marks, list);
        }
        return keep(list, open);
    }

    /** The last end, -1 if there is none, -2 if it gave up. */
    private int automaton() {
        made = 0;
        flushesHere = 0;
        int end = -1;
        List<Entry> list = new ArrayList<>();
        follow(0, 0, slotsAt(0), 2, new HashSet<>(), list);
        State state = keep(list, true);
        for (int place = 0;; place++) {
            if (state == null) {
                return -2;
            }
            if (state.found) {
                end = place;
            }
            if (!state.open && state.entries.isEmpty()) {
                return end;
            }
            if (place == text.length()) {
                return foundBehindLast(state) ? place : end;
            }
            state = next(state, place);
        }
    }

    private boolean foundBehindLast(State state) {
        for (int pc : state.entries) {
            List<Entry> list = new ArrayList<>();
            if (code.get(pc)[0] == 6) {
                follow(pc + 1, text.length(), slotsAt(0), 1, new HashSet<>(), list);
            }
            for (Entry e : list) {
                if (code.get(e.pc)[0] == 7) {
                    return true;
                }
            }
        }
        return false;
    }

    Object simple() {
        return code.isEmpty() ? "IllegalStateException" : (Object) isSimple();
    }

    private boolean isSimple() {
        if (code.get(0)[0] != 5) {
            return false;
        }
        for (int i = 0; i < code.size(); i++) {
            if (i > 0 && code.get(i - 1)[0] > 1) {
                continue;
            }
            List<Entry> list = new ArrayList<>();
            cameTwice = false;
            follow(i, 0, slotsAt(0), 1, new HashSet<>(), list);
            List<Integer> read = new ArrayList<>();
            for (Entry e : list) {
                int[] c = code.get(e.pc);
                if (c[0] <= 1) {
                    read.add(c[0] == 1 ? -1 : c[1]);
                }
            }
            boolean same = new HashSet<>(read).size() < read.size();
            if (cameTwice || same || (read.contains(-1) && read.size() > 1)) {
                return false;
            }
        }
        return true;
    }

    private int[] single() {
        int[] best = null;
        int[] slots = slotsAt(0);
        int pc = 0;
        work = 0;
        for (int place = 0; pc >= 0; place++) {
            work++;
            List<Entry> list = new ArrayList<>();
            follow(pc, place, slots, lastAt(place), new HashSet<>(), list);
            pc = -1;
            for (Entry e : list) {
                if (code.get(e.pc)[0] == 7) {
                    best = e.slots.clone();
                    best[1] = place;
                    break;
                }
                if (right(e.pc, place)) {
                    pc = e.pc + 1;
                    slots = e.slots;
                }
            }
        }
        return best;
    }

    Object search(int which) {
        if (which < 0 || which > 4) {
            return "IllegalArgumentException";
        }
        if (code.isEmpty() || (which == 3 && !isSimple())) {
            return "IllegalStateException";
        }
        int plan = isSimple() ? 3 : code.size() * (text.length() + 1) <= 128 ? 1 : 2;
        matcher = which == 4 ? plan : which;
        if (matcher == 1) {
            match = marks();
            work = marksSet.size();
        } else if (matcher == 3) {
            match = single();
        } else if (matcher == 2) {
            int end = automaton();
            match = null;
            work = made;
            if (end == -2) {
                matcher = 0;
            }
            for (int from = 0; end >= 0 && match == null; from++) {
                int[] found = lists(from, false);
                match = found != null && found[1] == end ? found : null;
            }
        }
        if (matcher == 0) {
            match = lists(0, true);
            work = passed;
        }
        return match == null ? -1 : match[0];
    }

    Object breaks() {
        if (code.isEmpty()) {
            return "IllegalStateException";
        }
        int count = 0;
        int before = -1;
        int q = 0;
        while (q <= text.length()) {
            int[] found = lists(q, true);
            if (found == null) {
                break;
            }
            boolean empty = found[0] == found[1];
            count += empty && found[0] == before ? 0 : 1;
            before = found[1];
            q = empty ? found[1] + 1 : found[1];
        }
        return count;
    }
}
