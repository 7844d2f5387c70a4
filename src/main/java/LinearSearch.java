import java.util.Arrays;

/**
 * Patterns over the letters a .. h, searched for in time that grows with the text alone. A pattern is written as a
 * program of small instructions; threads in lists, a search with marks, an automaton whose states are made when they
 * are needed and a single thread run it, and all find the same match.
 */
public final class LinearSearch {
    private static final int MAX_PATTERN = 24;
    private static final int MAX_TEXT = 20;
    private static final int MAX_GROUPS = 3;
    private static final int LETTER_COUNT = 8;
    /** No character of a pattern is written as more than two instructions, and FOUND stands behind them all. */
    private static final int MAX_CODE = 2 * MAX_PATTERN + 1;
    /** Of a pattern's characters each can be a LETTER, ANY or LAST at most once, and FOUND stands behind them. */
    private static final int MAX_ENTRIES = MAX_PATTERN + 1;

    private static final int LEAST_LIMIT = 3;
    private static final int LIMIT_BITS = 15;
    private static final int FLUSHES_TO_GIVE_UP = 3;
    private static final int MARKS_ROOM = 128;

    private static final int LETTER = 0;
    private static final int ANY = 1;
    private static final int SPLIT = 2;
    private static final int GO = 3;
    private static final int SAVE = 4;
    private static final int FIRST = 5;
    private static final int LAST = 6;
    private static final int FOUND = 7;
    private static final int NO_KIND = -1;

    private static final int LISTS = 0;
    private static final int MARKS = 1;
    private static final int STATES = 2;
    private static final int SINGLE = 3;
    private static final int PLANNED = 4;

    private static final int NONE = -1;
    /** A thread's slots with nothing noted; a match always has its beginning noted, so this is no match, too. */
    private static final long NO_SLOTS = 0L;
    private static final int SLOT_BITS = 5;
    private static final long SLOT_MASK = 31L;
    private static final int MATCH_BEGIN = 0;
    private static final int MATCH_END = 1;

    private final char[] pattern = new char[MAX_PATTERN];
    private int patternLength;
    private final Writer writer = new Writer();
    private final Text text = new Text();
    private final Lists lists = new Lists();
    private final Marks marks = new Marks();
    private final Single single = new Single();
    private final Automaton automaton;
    /** Without an instruction as long as nothing is compiled; two programs, so that a refused pattern harms nothing. */
    private Program program = new Program();
    private Program draft = new Program();
    private boolean fitsSingle;
    private long match = NO_SLOTS;
    private int latestWork = NONE;
    private int latestMatcher = NONE;

    public LinearSearch(int limit) {
        automaton = new Automaton(LEAST_LIMIT + (limit & LIMIT_BITS));
    }

    public boolean type(char c) {
        if (patternLength < 0 || patternLength >= pattern.length) {
            return false;
        }
        pattern[patternLength] = c;
        patternLength++;
        return true;
    }

    public void wipe() {
        patternLength = 0;
    }

    public int compile() throws IllegalArgumentException {
        if (!writer.write(pattern, patternLength, draft)) {
            throw new IllegalArgumentException("no pattern");
        }
        Program before = program;
        program = draft;
        draft = before;
        fitsSingle = single.fits(program);
        automaton.reset();
        forgetSearch();
        return program.size();
    }

    public int instruction(int i, int what) throws IndexOutOfBoundsException, IllegalArgumentException {
        if (i < 0 || i >= program.size()) {
            throw new IndexOutOfBoundsException("no such instruction");
        }
        switch (what) {
            case 0:
                return program.kindAt(i);
            case 1:
                return program.xAt(i);
            case 2:
                return program.yAt(i);
            default:
                throw new IllegalArgumentException("no such what");
        }
    }

    public boolean simple() throws IllegalStateException {
        if (program.size() == 0) {
            throw new IllegalStateException("nothing is compiled");
        }
        return fitsSingle;
    }

    public boolean feed(char c) {
        if (!text.add(c)) {
            return false;
        }
        forgetSearch();
        return true;
    }

    public void clear() {
        text.empty();
        forgetSearch();
    }

    public int search(int matcher) throws IllegalArgumentException, IllegalStateException {
        if (matcher < LISTS || matcher > PLANNED) {
            throw new IllegalArgumentException("no such matcher");
        }
        if (program.size() == 0) {
            throw new IllegalStateException("nothing is compiled");
        }
        if (matcher == SINGLE && !fitsSingle) {
            throw new IllegalStateException("the pattern is not simple");
        }
        switch (matcher == PLANNED ? plannedMatcher() : matcher) {
            case MARKS:
                match = marks.find(program, text);
                note(MARKS, marks.marksSet());
                break;
            case STATES:
                runAutomaton();
                break;
            case SINGLE:
                match = single.find(program, text);
                note(SINGLE, single.lettersPassed() + 1);
                break;
            default:
                runLists();
                break;
        }
        return placeIn(match, MATCH_BEGIN);
    }

    public int slot(int group, boolean end) throws IndexOutOfBoundsException {
        if (group < 0 || group > MAX_GROUPS) {
            throw new IndexOutOfBoundsException("no such group");
        }
        return placeIn(match, end ? 2 * group + 1 : 2 * group);
    }

    public int work() {
        return latestWork;
    }

    public int matcher() {
        return latestMatcher;
    }

    public int states() {
        return automaton.keptCount();
    }

    public int flushes() {
        return automaton.flushCount();
    }

    public int breaks() throws IllegalStateException {
        if (program.size() == 0) {
            throw new IllegalStateException("nothing is compiled");
        }
        int count = 0;
        int endBefore = NONE;
        int from = 0;
        // Each match moves on by a place at least, so there are no more than the text has places.
        for (int i = 0; i <= MAX_TEXT && from <= text.length(); i++) {
            long found = lists.find(program, text, from, true);
            if (found == NO_SLOTS) {
                break;
            }
            int begin = placeIn(found, MATCH_BEGIN);
            int end = placeIn(found, MATCH_END);
            boolean isEmpty = begin == end;
            if (!isEmpty || begin != endBefore) {
                count++;
            }
            endBefore = end;
            from = isEmpty ? end + 1 : end;
        }
        return count;
    }

    private int plannedMatcher() {
        if (fitsSingle) {
            return SINGLE;
        }
        return program.size() * (text.length() + 1) <= MARKS_ROOM ? MARKS : STATES;
    }

    private void runLists() {
        match = lists.find(program, text, 0, true);
        note(LISTS, lists.entriesPassed());
    }

    private void runAutomaton() {
        int end = automaton.lastEnd(program, text);
        if (automaton.gaveUp()) {
            runLists();
            return;
        }
        match = end == NONE ? NO_SLOTS : leftmostEndingAt(end);
        note(STATES, automaton.statesMade());
    }

    /** An automaton only knows where a match ends; its beginning and its groups are found by lists. */
    private long leftmostEndingAt(int end) {
        for (int from = 0; from <= end; from++) {
            long found = lists.find(program, text, from, false);
            if (found != NO_SLOTS && placeIn(found, MATCH_END) == end) {
                return found;
            }
        }
        return NO_SLOTS;
    }

    private void note(int byMatcher, int itsWork) {
        latestMatcher = byMatcher;
        latestWork = itsWork;
    }

    private void forgetSearch() {
        match = NO_SLOTS;
        note(NONE, NONE);
    }

    /**
     * Slots stand in one number, five bits for each, so that threads hand them on without making anything. A slot
     * holds its place and 1, so that 0 is one that was not noted.
     */
    private static long withSlot(long slots, int slot, int place) {
        int shift = SLOT_BITS * slot;
        return (slots & ~(SLOT_MASK << shift)) | ((long) (place + 1) << shift);
    }

    private static int placeIn(long slots, int slot) {
        return (int) ((slots >>> (SLOT_BITS * slot)) & SLOT_MASK) - 1;
    }

    private static long slotsFrom(int place) {
        return withSlot(NO_SLOTS, MATCH_BEGIN, place);
    }

    /** The letters that are searched. */
    private static final class Text {
        private final int[] letters = new int[MAX_TEXT];
        private int length;

        boolean add(char c) {
            int letter = c - 'a';
            if (letter < 0 || letter >= LETTER_COUNT || length < 0 || length >= letters.length) {
                return false;
            }
            letters[length] = letter;
            length++;
            return true;
        }

        void empty() {
            length = 0;
        }

        int length() {
            return length;
        }

        /** NONE at the text's end, for which no LETTER and no ANY is right. */
        int letterAt(int place) {
            return place >= 0 && place < length && place < letters.length ? letters[place] : NONE;
        }
    }

    /** The instructions that are written for a pattern. */
    private static final class Program {
        /** What a GO leads to as long as the end of its choice is not written. */
        private static final int OPEN_END = -1;

        private final int[] kinds = new int[MAX_CODE];
        private final int[] xs = new int[MAX_CODE];
        private final int[] ys = new int[MAX_CODE];
        private int size;

        void empty() {
            size = 0;
        }

        int size() {
            return size;
        }

        int kindAt(int i) {
            return i >= 0 && i < size && i < MAX_CODE ? kinds[i] : NO_KIND;
        }

        int xAt(int i) {
            return i >= 0 && i < size && i < MAX_CODE ? xs[i] : 0;
        }

        int yAt(int i) {
            return i >= 0 && i < size && i < MAX_CODE ? ys[i] : 0;
        }

        boolean takes(int i, int letter) {
            int kind = kindAt(i);
            return letter != NONE && (kind == ANY || (kind == LETTER && xAt(i) == letter));
        }

        boolean readsLetter(int i) {
            int kind = kindAt(i);
            return kind == LETTER || kind == ANY;
        }

        void add(int kind, int x) {
            if (size >= 0 && size < MAX_CODE) {
                kinds[size] = kind;
                xs[size] = x;
                ys[size] = 0;
                size++;
            }
        }

        void addOpenGo() {
            add(GO, OPEN_END);
        }

        /** Makes room for a SPLIT in front of what is written from there on, which moves with all that it leads to. */
        void insertSplit(int at) {
            if (at < 0 || at > size || size >= MAX_CODE) {
                return;
            }
            for (int i = size; i > at; i--) {
                int kind = kinds[i - 1];
                boolean leadsOn = kind == SPLIT || kind == GO;
                kinds[i] = kind;
                xs[i] = leadsOn && xs[i - 1] >= at ? xs[i - 1] + 1 : xs[i - 1];
                ys[i] = kind == SPLIT && ys[i - 1] >= at ? ys[i - 1] + 1 : ys[i - 1];
            }
            kinds[at] = SPLIT;
            size++;
        }

        void aimSplit(int at, int x, int y) {
            if (at >= 0 && at < size && at < MAX_CODE) {
                xs[at] = x;
                ys[at] = y;
            }
        }

        /** The choices inside this one have ended before, so each GO that is still open is one of its own. */
        void closeChoice(int begin) {
            for (int i = Math.max(begin, 0); i < size && i < MAX_CODE; i++) {
                if (kinds[i] == GO && xs[i] == OPEN_END) {
                    xs[i] = size;
                }
            }
        }
    }

    /** Reads a pattern and writes its program; each reading method answers whether a pattern is still possible. */
    private static final class Writer {
        private static final int END = -1;

        private char[] source;
        private int length;
        private int at;
        private int groups;
        private Program target;

        boolean write(char[] pattern, int patternLength, Program into) {
            if (pattern == null || into == null) {
                return false;
            }
            source = pattern;
            length = patternLength;
            target = into;
            at = 0;
            groups = 0;
            target.empty();
            boolean isPattern = writeChoice() && peek() == END;
            if (isPattern) {
                target.add(FOUND, 0);
            }
            return isPattern;
        }

        private int peek() {
            return at >= 0 && at < length && at < source.length ? source[at] : END;
        }

        private boolean writeChoice() {
            int choiceBegin = target.size();
            int begin = choiceBegin;
            boolean isRight = writeSequence();
            for (int i = 0; i < MAX_PATTERN && isRight && peek() == '|'; i++) {
                at++;
                target.insertSplit(begin);
                target.addOpenGo();
                target.aimSplit(begin, begin + 1, target.size());
                begin = target.size();
                isRight = writeSequence();
            }
            target.closeChoice(choiceBegin);
            return isRight;
        }

        private boolean writeSequence() {
            for (int i = 0; i < MAX_PATTERN; i++) {
                int next = peek();
                if (next == END || next == '|' || next == ')') {
                    break;
                }
                if (!writePiece()) {
                    return false;
                }
            }
            return true;
        }

        private boolean writePiece() {
            int begin = target.size();
            if (!writeAtom()) {
                return false;
            }
            int sign = peek();
            if (sign == '?' || sign == '*' || sign == '+') {
                at++;
                boolean isLazy = peek() == '?';
                if (isLazy) {
                    at++;
                }
                writeSign(sign, begin, isLazy);
            }
            return true;
        }

        private boolean writeAtom() {
            int c = peek();
            at++;
            if (c >= 'a' && c < 'a' + LETTER_COUNT) {
                target.add(LETTER, c - 'a');
                return true;
            }
            switch (c) {
                case '.':
                    target.add(ANY, 0);
                    return true;
                case '^':
                    target.add(FIRST, 0);
                    return true;
                case '$':
                    target.add(LAST, 0);
                    return true;
                case '(':
                    return writeGroup();
                default:
                    return false;
            }
        }

        /** The number of groups bounds how deep choices stand in one another, too. */
        private boolean writeGroup() {
            if (groups >= MAX_GROUPS) {
                return false;
            }
            groups++;
            int number = groups;
            target.add(SAVE, 2 * number);
            if (!writeChoice() || peek() != ')') {
                return false;
            }
            at++;
            target.add(SAVE, 2 * number + 1);
            return true;
        }

        private void writeSign(int sign, int begin, boolean isLazy) {
            int split = begin;
            int into = begin + 1;
            if (sign == '+') {
                split = target.size();
                into = begin;
                target.add(SPLIT, 0);
            } else {
                target.insertSplit(begin);
            }
            if (sign == '*') {
                target.add(GO, begin);
            }
            int behind = target.size();
            target.aimSplit(split, isLazy ? behind : into, isLazy ? into : behind);
        }
    }

    /** Instructions that following came to, in their order, each with the slots of its thread. */
    private static final class ThreadList {
        private final int[] instructions = new int[MAX_ENTRIES];
        private final long[] slots = new long[MAX_ENTRIES];
        private int size;

        void empty() {
            size = 0;
        }

        int size() {
            return size;
        }

        void add(int instruction, long itsSlots) {
            if (size >= 0 && size < MAX_ENTRIES) {
                instructions[size] = instruction;
                slots[size] = itsSlots;
                size++;
            }
        }

        int instructionAt(int i) {
            return i >= 0 && i < size && i < MAX_ENTRIES ? instructions[i] : NONE;
        }

        long slotsAt(int i) {
            return i >= 0 && i < size && i < MAX_ENTRIES ? slots[i] : NO_SLOTS;
        }
    }

    /** Follows instructions at one place of the text, with one row of marks for all that is followed there. */
    private static final class Follower {
        private static final int LAST_STOPS = 0;
        private static final int LAST_GOES_ON = 1;
        private static final int LAST_STANDS = 2;
        /** Only an instruction that was not yet marked makes others wait, and no more than two. */
        private static final int MAX_STEPS = 2 * MAX_CODE + 1;
        /** Only a SPLIT makes one more wait than before, and no character is written as more than one SPLIT. */
        private static final int MAX_WAITING = MAX_PATTERN + 1;

        private final int[] waiting = new int[MAX_WAITING];
        private final long[] waitingSlots = new long[MAX_WAITING];
        private int waitingCount;
        /** A bit for each instruction: a program has fewer than 64. */
        private long marked;
        private boolean cameTwice;
        private Program program;
        private ThreadList list;
        private int place;
        private int lastRule;

        void begin(Program itsProgram, ThreadList into, int atPlace, int ruleForLast) {
            program = itsProgram;
            list = into;
            place = atPlace;
            lastRule = ruleForLast;
            waitingCount = 0;
            marked = 0L;
            cameTwice = false;
            if (list != null) {
                list.empty();
            }
        }

        static int ruleAt(int place, Text text) {
            return place == text.length() ? LAST_GOES_ON : LAST_STOPS;
        }

        boolean cameTwice() {
            return cameTwice;
        }

        void follow(int from, long slots) {
            if (program == null || list == null) {
                return;
            }
            push(from, slots);
            for (int i = 0; i < MAX_STEPS && waitingCount > 0 && waitingCount <= MAX_WAITING; i++) {
                waitingCount--;
                step(waiting[waitingCount], waitingSlots[waitingCount]);
            }
        }

        private void push(int instruction, long slots) {
            if (instruction >= 0 && instruction < MAX_CODE && waitingCount >= 0 && waitingCount < MAX_WAITING) {
                waiting[waitingCount] = instruction;
                waitingSlots[waitingCount] = slots;
                waitingCount++;
            }
        }

        private void step(int i, long slots) {
            long bit = 1L << i;
            if ((marked & bit) != 0L) {
                cameTwice = true;
                return;
            }
            marked |= bit;
            switch (program.kindAt(i)) {
                case SPLIT:
                    push(program.yAt(i), slots);
                    push(program.xAt(i), slots);
                    break;
                case GO:
                    push(program.xAt(i), slots);
                    break;
                case SAVE:
                    push(i + 1, withSlot(slots, program.xAt(i), place));
                    break;
                case FIRST:
                    if (place == 0) {
                        push(i + 1, slots);
                    }
                    break;
                case LAST:
                    if (lastRule == LAST_GOES_ON) {
                        push(i + 1, slots);
                    } else if (lastRule == LAST_STANDS) {
                        list.add(i, slots);
                    }
                    break;
                default:
                    list.add(i, slots);
                    break;
            }
        }
    }

    /** Threads in lists: one list for each place of the text. */
    private static final class Lists {
        private final Follower follower = new Follower();
        private ThreadList now = new ThreadList();
        private ThreadList next = new ThreadList();
        private int passed;

        int entriesPassed() {
            return passed;
        }

        /** The slots of the match; with onward, matches may begin at later places than from, too. */
        long find(Program program, Text text, int from, boolean onward) {
            passed = 0;
            long best = NO_SLOTS;
            follower.begin(program, now, from, Follower.ruleAt(from, text));
            follower.follow(0, slotsFrom(from));
            for (int place = from; place <= text.length(); place++) {
                follower.begin(program, next, place + 1, Follower.ruleAt(place + 1, text));
                long found = goThrough(program, text.letterAt(place));
                if (found != NO_SLOTS) {
                    best = withSlot(found, MATCH_END, place);
                }
                boolean mayBegin = onward && best == NO_SLOTS;
                if (mayBegin && place < text.length()) {
                    follower.follow(0, slotsFrom(place + 1));
                }
                swapLists();
                if (!mayBegin && now.size() == 0) {
                    break;
                }
            }
            return best;
        }

        /** The slots of FOUND, which cuts off what stands behind it; none if it is not come to. */
        private long goThrough(Program program, int letter) {
            for (int i = 0; i < now.size(); i++) {
                passed++;
                int instruction = now.instructionAt(i);
                if (program.kindAt(instruction) == FOUND) {
                    return now.slotsAt(i);
                }
                if (program.takes(instruction, letter)) {
                    follower.follow(instruction + 1, now.slotsAt(i));
                }
            }
            return NO_SLOTS;
        }

        private void swapLists() {
            ThreadList before = now;
            now = next;
            next = before;
        }
    }

    /** One thread that goes back to its latest SPLIT, and never twice to an instruction at a place. */
    private static final class Marks {
        /** Only an instruction that was not yet marked at a place makes others wait, and no more than two. */
        private static final int MAX_STEPS = 2 * MAX_CODE * (MAX_TEXT + 1) + 1;
        /** Only a SPLIT makes one more wait than before, at each place, and no character is more than one SPLIT. */
        private static final int MAX_WAITING = MAX_PATTERN * (MAX_TEXT + 1) + 1;

        /** A bit for each instruction in the number of each place. */
        private final long[] marked = new long[MAX_TEXT + 1];
        private final int[] waiting = new int[MAX_WAITING];
        private final int[] waitingPlaces = new int[MAX_WAITING];
        private final long[] waitingSlots = new long[MAX_WAITING];
        private int waitingCount;
        private int set;
        private Program program;
        private Text text;

        int marksSet() {
            return set;
        }

        long find(Program itsProgram, Text itsText) {
            program = itsProgram;
            text = itsText;
            set = 0;
            Arrays.fill(marked, 0L);
            for (int from = 0; from <= text.length(); from++) {
                long found = findFrom(from);
                if (found != NO_SLOTS) {
                    return found;
                }
            }
            return NO_SLOTS;
        }

        private long findFrom(int from) {
            waitingCount = 0;
            push(0, from, slotsFrom(from));
            for (int i = 0; i < MAX_STEPS && waitingCount > 0 && waitingCount <= MAX_WAITING; i++) {
                waitingCount--;
                int instruction = waiting[waitingCount];
                int place = waitingPlaces[waitingCount];
                long slots = waitingSlots[waitingCount];
                if (!mark(instruction, place)) {
                    continue;
                }
                if (program.kindAt(instruction) == FOUND) {
                    return withSlot(slots, MATCH_END, place);
                }
                step(instruction, place, slots);
            }
            return NO_SLOTS;
        }

        private void push(int instruction, int place, long slots) {
            if (waitingCount >= 0 && waitingCount < MAX_WAITING) {
                waiting[waitingCount] = instruction;
                waitingPlaces[waitingCount] = place;
                waitingSlots[waitingCount] = slots;
                waitingCount++;
            }
        }

        private boolean mark(int instruction, int place) {
            if (place < 0 || place > MAX_TEXT) {
                return false;
            }
            long bit = 1L << instruction;
            if ((marked[place] & bit) != 0L) {
                return false;
            }
            marked[place] |= bit;
            set++;
            return true;
        }

        private void step(int i, int place, long slots) {
            switch (program.kindAt(i)) {
                case SPLIT:
                    push(program.yAt(i), place, slots);
                    push(program.xAt(i), place, slots);
                    break;
                case GO:
                    push(program.xAt(i), place, slots);
                    break;
                case SAVE:
                    push(i + 1, place, withSlot(slots, program.xAt(i), place));
                    break;
                case FIRST:
                    if (place == 0) {
                        push(i + 1, place, slots);
                    }
                    break;
                case LAST:
                    if (place == text.length()) {
                        push(i + 1, place, slots);
                    }
                    break;
                default:
                    if (program.takes(i, text.letterAt(place))) {
                        push(i + 1, place + 1, slots);
                    }
                    break;
            }
        }
    }

    /** A state of the automaton: what stands in a list up to FOUND, whether it is open, and where it leads. */
    private static final class State {
        private final int[] entries = new int[MAX_ENTRIES];
        private final int[] leads = new int[LETTER_COUNT];
        private int size;
        private boolean isOpen;
        private boolean hasFound;

        void fill(Program program, ThreadList list, boolean open) {
            size = 0;
            isOpen = open;
            hasFound = false;
            Arrays.fill(leads, NONE);
            for (int i = 0; i < list.size() && i < MAX_ENTRIES && !hasFound; i++) {
                entries[i] = list.instructionAt(i);
                hasFound = program.kindAt(entries[i]) == FOUND;
                size++;
            }
        }

        boolean isSameAs(State other) {
            if (size != other.size || isOpen != other.isOpen) {
                return false;
            }
            for (int i = 0; i < size && i < MAX_ENTRIES; i++) {
                if (entries[i] != other.entries[i]) {
                    return false;
                }
            }
            return true;
        }

        boolean isOver() {
            return !isOpen && size == 0;
        }

        boolean opensNext() {
            return isOpen && !hasFound;
        }

        int entryAt(int i) {
            return i >= 0 && i < size && i < MAX_ENTRIES ? entries[i] : NONE;
        }

        int leadBy(int letter) {
            return letter >= 0 && letter < LETTER_COUNT ? leads[letter] : NONE;
        }

        void setLead(int letter, int state) {
            if (letter >= 0 && letter < LETTER_COUNT) {
                leads[letter] = state;
            }
        }
    }

    /** An automaton whose states are made when they are needed, and kept up to a limit. */
    private static final class Automaton {
        private final Follower follower = new Follower();
        private final ThreadList list = new ThreadList();
        private final State[] row;
        /** Where a state is tried out before it is known whether it is a new one. */
        private State spare = new State();
        private int kept;
        private int flushed;
        private int flushedInSearch;
        private int made;

        Automaton(int itsLimit) {
            row = new State[Math.max(itsLimit, 1)];
            for (int i = 0; i < row.length; i++) {
                row[i] = new State();
            }
        }

        void reset() {
            kept = 0;
            flushed = 0;
        }

        int keptCount() {
            return kept;
        }

        int flushCount() {
            return flushed;
        }

        int statesMade() {
            return made;
        }

        boolean gaveUp() {
            return flushedInSearch >= FLUSHES_TO_GIVE_UP;
        }

        /** Where the match ends; NONE if there is none, or the search gave up. */
        int lastEnd(Program program, Text text) {
            made = 0;
            flushedInSearch = 0;
            int end = NONE;
            int at = firstState(program);
            for (int place = 0; place <= text.length(); place++) {
                State state = stateAt(at);
                if (state == null) {
                    return NONE;
                }
                if (state.hasFound || (place == text.length() && foundBehindLasts(program, state, place))) {
                    end = place;
                }
                if (place == text.length() || state.isOver()) {
                    break;
                }
                at = nextState(program, at, text.letterAt(place));
            }
            return end;
        }

        private State stateAt(int index) {
            return index >= 0 && index < kept && index < row.length ? row[index] : null;
        }

        private int firstState(Program program) {
            follower.begin(program, list, 0, Follower.LAST_STANDS);
            follower.follow(0, NO_SLOTS);
            return keep(program, true);
        }

        private int nextState(Program program, int from, int letter) {
            State state = stateAt(from);
            if (state == null) {
                return NONE;
            }
            int known = state.leadBy(letter);
            if (known != NONE) {
                return known;
            }
            // All places but 0 are alike here, as LAST is not gone on from.
            follower.begin(program, list, 1, Follower.LAST_STANDS);
            for (int i = 0; i < state.size; i++) {
                if (program.takes(state.entryAt(i), letter)) {
                    follower.follow(state.entryAt(i) + 1, NO_SLOTS);
                }
            }
            boolean open = state.opensNext();
            if (open) {
                follower.follow(0, NO_SLOTS);
            }
            int flushedBefore = flushed;
            int next = keep(program, open);
            if (flushed == flushedBefore) {
                state.setLead(letter, next);
            }
            return next;
        }

        /** Keeps what stands in the list as a state, if it is not known: where it is kept, or NONE to give up. */
        private int keep(Program program, boolean open) {
            State fresh = spare;
            fresh.fill(program, list, open);
            for (int i = 0; i < kept && i < row.length; i++) {
                if (row[i].isSameAs(fresh)) {
                    return i;
                }
            }
            if (kept < 0 || kept >= row.length) {
                kept = 0;
                flushed++;
                flushedInSearch++;
                if (gaveUp()) {
                    return NONE;
                }
            }
            spare = row[kept];
            row[kept] = fresh;
            kept++;
            made++;
            return kept - 1;
        }

        private boolean foundBehindLasts(Program program, State state, int place) {
            follower.begin(program, list, place, Follower.LAST_GOES_ON);
            for (int i = 0; i < state.size; i++) {
                if (program.kindAt(state.entryAt(i)) == LAST) {
                    follower.follow(state.entryAt(i) + 1, NO_SLOTS);
                }
            }
            for (int i = 0; i < list.size(); i++) {
                if (program.kindAt(list.instructionAt(i)) == FOUND) {
                    return true;
                }
            }
            return false;
        }
    }

    /** A single thread, for patterns where never more than one instruction is right for a letter. */
    private static final class Single {
        private final Follower follower = new Follower();
        private final ThreadList list = new ThreadList();
        private int passed;
        private long best;
        private int goesOn;
        private long goesOnSlots;

        int lettersPassed() {
            return passed;
        }

        boolean fits(Program program) {
            if (program.kindAt(0) != FIRST) {
                return false;
            }
            for (int i = 0; i < program.size(); i++) {
                if ((i == 0 || program.readsLetter(i - 1)) && !isPlainFrom(program, i)) {
                    return false;
                }
            }
            return true;
        }

        private boolean isPlainFrom(Program program, int from) {
            follower.begin(program, list, 0, Follower.LAST_GOES_ON);
            follower.follow(from, NO_SLOTS);
            if (follower.cameTwice()) {
                return false;
            }
            int readers = 0;
            int anys = 0;
            int letters = 0;
            for (int i = 0; i < list.size(); i++) {
                int instruction = list.instructionAt(i);
                if (!program.readsLetter(instruction)) {
                    continue;
                }
                readers++;
                if (program.kindAt(instruction) == ANY) {
                    anys++;
                    continue;
                }
                int bit = 1 << program.xAt(instruction);
                if ((letters & bit) != 0) {
                    return false;
                }
                letters |= bit;
            }
            return anys == 0 || readers == 1;
        }

        long find(Program program, Text text) {
            passed = 0;
            best = NO_SLOTS;
            goesOn = 0;
            goesOnSlots = slotsFrom(0);
            for (int place = 0; place <= text.length(); place++) {
                follower.begin(program, list, place, Follower.ruleAt(place, text));
                follower.follow(goesOn, goesOnSlots);
                goesOn = NONE;
                goThrough(program, text.letterAt(place), place);
                if (goesOn == NONE) {
                    break;
                }
                passed++;
            }
            return best;
        }

        private void goThrough(Program program, int letter, int place) {
            for (int i = 0; i < list.size(); i++) {
                int instruction = list.instructionAt(i);
                if (program.kindAt(instruction) == FOUND) {
                    best = withSlot(list.slotsAt(i), MATCH_END, place);
                    return;
                }
                if (program.takes(instruction, letter)) {
                    goesOn = instruction + 1;
                    goesOnSlots = list.slotsAt(i);
                }
            }
        }
    }
}
