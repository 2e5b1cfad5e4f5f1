/**
 * Enumerates the minimal unsatisfiable subsets (MUS) and the maximal satisfiable subsets (MSS)
 * of a small system of Boolean constraints, in the manner of the MARCO algorithm.
 */
public final class ConflictEnumerator {
    public static final int INVALID_ARGUMENT = -1;
    public static final int ILLEGAL_STATE = -2;
    public static final int CAPACITY_EXCEEDED = -3;
    public static final int NONE = -9;

    private static final int TEXT_LIMIT = 120;
    private static final int GREATEST_CHARACTER = 255;
    private static final int ERROR_BASE = -10;

    private static final int VARIABLES = 6;
    private static final int ASSIGNMENTS = 64;
    private static final long ALL_ASSIGNMENTS = -1L;
    private static final int CONSTRAINT_LIMIT = 10;
    private static final int GREATEST_WEIGHT = 9;
    private static final int DEFAULT_WEIGHT = 1;
    /** Stands in a constraint's place for its weight: no soft constraint weighs 0. */
    private static final int HARD_WEIGHT = 0;

    private static final int LARGEST_FIRST = 0;
    private static final int SMALLEST_FIRST = 1;
    private static final int FOUND_MSS = 1;
    private static final int FOUND_MUS = 2;

    /** No set of a list contains another one, and ten constraints have at most 10 over 5 such sets. */
    private static final int LIST_LIMIT = 252;
    private static final int STEP_LIMIT = 2 * LIST_LIMIT;
    /** One bit for each of the 1024 selections that ten constraints can have. */
    private static final int EXPLORED_WORDS = 16;
    private static final int BLAME_OF_A_MUS = 1000;

    private static final int UNDO_LIMIT = 5;
    private static final int SLOTS = 2;

    private final Text text;
    private final Parser parser;
    private final State state;
    private final History history;
    /** An empty slot holds null. */
    private final State[] slots;

    public ConflictEnumerator() {
        text = new Text();
        parser = new Parser();
        state = new State();
        history = new History();
        slots = new State[SLOTS];
    }

    // ---- input text

    public int append(int character) {
        if (character < 0 || character > GREATEST_CHARACTER) {
            return INVALID_ARGUMENT;
        }
        if (text.isFull()) {
            return CAPACITY_EXCEEDED;
        }
        text.add(character);
        return text.length();
    }

    public int clearText() {
        int previous = text.length();
        text.clear();
        return previous;
    }

    public int load() {
        int errorPosition = parser.parse(text);
        if (errorPosition != NONE) {
            return ERROR_BASE - errorPosition;
        }
        history.push(state);
        state.replaceSystem(parser.parsed());
        for (int slot = 0; slot < SLOTS; slot++) {
            slots[slot] = null;
        }
        text.clear();
        return state.system().size();
    }

    // ---- changes of the system

    public int remove(int constraint) {
        if (!state.system().has(constraint)) {
            return INVALID_ARGUMENT;
        }
        history.push(state);
        state.deleteConstraint(constraint);
        return state.system().size();
    }

    public int setHard(int constraint, int hard) {
        if (!state.system().has(constraint) || hard < 0 || hard > 1) {
            return INVALID_ARGUMENT;
        }
        boolean wanted = hard == 1;
        if (state.system().isHard(constraint) == wanted) {
            return ILLEGAL_STATE;
        }
        history.push(state);
        state.changeHardness(constraint, wanted);
        return Integer.bitCount(state.system().softMask());
    }

    public int setWeight(int constraint, int weight) {
        if (!state.system().has(constraint) || weight < 1 || weight > GREATEST_WEIGHT) {
            return INVALID_ARGUMENT;
        }
        int previous = state.system().weightOf(constraint);
        if (previous == HARD_WEIGHT || previous == weight) {
            return ILLEGAL_STATE;
        }
        history.push(state);
        state.system().changeWeight(constraint, weight);
        return previous;
    }

    public int setStrategy(int strategy) {
        if (strategy != LARGEST_FIRST && strategy != SMALLEST_FIRST) {
            return INVALID_ARGUMENT;
        }
        int previous = state.strategy();
        if (previous == strategy) {
            return ILLEGAL_STATE;
        }
        history.push(state);
        state.changeStrategy(strategy);
        return previous;
    }

    // ---- enumeration

    public int step() {
        int next = state.nextSeed();
        if (next == NONE) {
            return ILLEGAL_STATE;
        }
        history.push(state);
        return state.explore(next);
    }

    public int finish() {
        int next = state.nextSeed();
        if (next == NONE) {
            return ILLEGAL_STATE;
        }
        history.push(state);
        int steps = 0;
        while (next != NONE && steps < STEP_LIMIT) {
            state.explore(next);
            steps++;
            next = state.nextSeed();
        }
        return steps;
    }

    public int undo() {
        if (!history.pop(state)) {
            return ILLEGAL_STATE;
        }
        return history.depth();
    }

    public int seed() {
        return state.nextSeed();
    }

    public int unexploredCount() {
        return state.countUnexplored();
    }

    public int musCount() {
        return state.muses().size();
    }

    public int mus(int position) {
        return entry(state.muses(), position);
    }

    public int mssCount() {
        return state.msses().size();
    }

    public int mss(int position) {
        return entry(state.msses(), position);
    }

    private static int entry(SelectionList list, int position) {
        if (position < 0) {
            return INVALID_ARGUMENT;
        }
        return list.get(position);
    }

    // ---- constraints

    public int weight(int constraint) {
        if (!state.system().has(constraint)) {
            return INVALID_ARGUMENT;
        }
        return state.system().weightOf(constraint);
    }

    public int violated(int assignment) {
        if (assignment < 0 || assignment >= ASSIGNMENTS) {
            return INVALID_ARGUMENT;
        }
        return state.system().violatedBy(assignment);
    }

    // ---- selections

    public int modelCount(int selection) {
        if (!state.system().isSelection(selection)) {
            return INVALID_ARGUMENT;
        }
        return Long.bitCount(state.system().modelsOf(selection));
    }

    public int firstModel(int selection) {
        if (!state.system().isSelection(selection)) {
            return INVALID_ARGUMENT;
        }
        return state.system().smallestModel(selection);
    }

    public int grown(int selection) {
        if (!state.system().isSelection(selection)) {
            return INVALID_ARGUMENT;
        }
        if (!state.system().isSatisfiable(selection)) {
            return ILLEGAL_STATE;
        }
        return state.system().grow(selection);
    }

    public int shrunk(int selection) {
        if (!state.system().isSelection(selection)) {
            return INVALID_ARGUMENT;
        }
        if (state.system().isSatisfiable(selection)) {
            return ILLEGAL_STATE;
        }
        return state.system().shrink(selection);
    }

    public int critical(int selection) {
        if (!state.system().isSelection(selection)) {
            return INVALID_ARGUMENT;
        }
        if (state.system().isSatisfiable(selection)) {
            return ILLEGAL_STATE;
        }
        return state.system().criticalOf(selection);
    }

    // ---- hitting sets and weights

    public int smallestHittingSet() {
        return state.leastHittingSet(false);
    }

    public int cheapestHittingSet() {
        return state.leastHittingSet(true);
    }

    public int heaviestSatisfiable() {
        return state.system().heaviest();
    }

    public int blame(int constraint) {
        if (!state.system().has(constraint)) {
            return INVALID_ARGUMENT;
        }
        return state.blameOf(constraint);
    }

    // ---- snapshots

    public int save(int slot) {
        if (slot < 0 || slot >= SLOTS) {
            return INVALID_ARGUMENT;
        }
        State kept = slots[slot];
        if (kept == null) {
            kept = new State();
            slots[slot] = kept;
        }
        kept.copyFrom(state);
        return state.system().size();
    }

    public int restore(int slot) {
        if (slot < 0 || slot >= SLOTS) {
            return INVALID_ARGUMENT;
        }
        State kept = slots[slot];
        if (kept == null) {
            return ILLEGAL_STATE;
        }
        state.copyFrom(kept);
        history.clear();
        return state.system().size();
    }

    // ---- counts

    public int constraintCount() {
        return state.system().size();
    }

    public int softConstraints() {
        return state.system().softMask();
    }

    public int undoDepth() {
        return history.depth();
    }

    /** The input text. */
    private static final class Text {
        private final int[] characters = new int[TEXT_LIMIT];
        private int length;

        int length() {
            return length;
        }

        boolean isFull() {
            return length >= TEXT_LIMIT;
        }

        void add(int character) {
            if (length < TEXT_LIMIT) {
                characters[length] = character;
                length++;
            }
        }

        void clear() {
            length = 0;
        }

        /** Returns the character at an offset, NONE outside the text. */
        int at(int offset) {
            if (offset < 0 || offset >= length) {
                return NONE;
            }
            return characters[offset];
        }

        boolean isLetter(int offset) {
            int character = at(offset);
            return character >= 'a' && character <= 'z';
        }

        /** Tells whether the characters from start to last are exactly the word. */
        boolean spells(int start, int last, String word) {
            if (last - start + 1 != word.length()) {
                return false;
            }
            for (int i = 0; i < word.length(); i++) {
                if (at(start + i) != word.charAt(i)) {
                    return false;
                }
            }
            return true;
        }
    }

    /**
     * Reads a text token by token. What may come next is one number, so that the first token that
     * cannot continue a valid system is the first one that is not accepted.
     */
    private static final class Parser {
        // A digit is the token of its own value; the other tokens follow behind the ten digits.
        private static final int GREATEST_DIGIT = 9;
        private static final int MINUS = 10;
        private static final int SEMICOLON = 11;
        private static final int OR = 12;
        private static final int XOR = 13;
        private static final int MOST = 14;
        private static final int HARD = 15;
        private static final int WEIGHT = 16;
        private static final int INVALID = 17;

        private static final int BEFORE_CONSTRAINT = 0;
        private static final int BEFORE_KIND = 1;
        private static final int BEFORE_BOUND = 2;
        private static final int BEFORE_FIRST_LITERAL = 3;
        private static final int BEFORE_VARIABLE = 4;
        private static final int BEHIND_LITERAL = 5;
        private static final int BEFORE_WEIGHT = 6;
        private static final int BEHIND_WEIGHT = 7;

        private final Constraints parsed = new Constraints();
        private int place;
        private int kind;
        private int bound;
        private int weight;
        private int positive;
        private int negative;

        Constraints parsed() {
            return parsed;
        }

        /** Returns the error position, or NONE if the text is a valid system, which parsed() then holds. */
        int parse(Text text) {
            parsed.clear();
            place = BEFORE_CONSTRAINT;
            int start = 0;
            for (int last = 0; last < text.length(); last++) {
                boolean wordGoesOn = text.isLetter(last) && text.isLetter(last + 1);
                if (!wordGoesOn) {
                    if (text.at(last) != ' ' && !accept(tokenOf(text, start, last))) {
                        return start;
                    }
                    start = last + 1;
                }
            }
            return place == BEFORE_CONSTRAINT ? NONE : text.length();
        }

        private static int tokenOf(Text text, int start, int last) {
            if (text.isLetter(start)) {
                return wordOf(text, start, last);
            }
            int character = text.at(start);
            if (character >= '0' && character <= '9') {
                return character - '0';
            }
            if (character == '-') {
                return MINUS;
            }
            return character == ';' ? SEMICOLON : INVALID;
        }

        private static int wordOf(Text text, int start, int last) {
            if (text.spells(start, last, "or")) {
                return OR;
            }
            if (text.spells(start, last, "xor")) {
                return XOR;
            }
            if (text.spells(start, last, "most")) {
                return MOST;
            }
            if (text.spells(start, last, "hard")) {
                return HARD;
            }
            return text.spells(start, last, "w") ? WEIGHT : INVALID;
        }

        private boolean accept(int token) {
            switch (place) {
                case BEFORE_CONSTRAINT:
                    return acceptConstraint(token);
                case BEFORE_KIND:
                    return acceptKind(token);
                case BEFORE_BOUND:
                    return acceptBound(token);
                case BEFORE_FIRST_LITERAL:
                    return acceptLiteral(token);
                case BEFORE_VARIABLE:
                    return acceptVariable(token, true);
                case BEHIND_LITERAL:
                    return acceptBehindLiteral(token);
                case BEFORE_WEIGHT:
                    return acceptWeight(token);
                default:
                    return acceptEnd(token);
            }
        }

        private boolean acceptConstraint(int token) {
            if (parsed.isFull()) {
                return false;
            }
            positive = 0;
            negative = 0;
            weight = DEFAULT_WEIGHT;
            if (token == HARD) {
                weight = HARD_WEIGHT;
                place = BEFORE_KIND;
                return true;
            }
            return acceptKind(token);
        }

        private boolean acceptKind(int token) {
            if (token != OR && token != XOR && token != MOST) {
                return false;
            }
            kind = token;
            place = token == MOST ? BEFORE_BOUND : BEFORE_FIRST_LITERAL;
            return true;
        }

        private boolean acceptBound(int token) {
            if (token > VARIABLES) {
                return false;
            }
            bound = token;
            place = BEFORE_FIRST_LITERAL;
            return true;
        }

        private boolean acceptLiteral(int token) {
            if (token == MINUS) {
                place = BEFORE_VARIABLE;
                return true;
            }
            return acceptVariable(token, false);
        }

        private boolean acceptVariable(int token, boolean negated) {
            if (token < 1 || token > VARIABLES) {
                return false;
            }
            int variable = 1 << (token - 1);
            if (((positive | negative) & variable) != 0) {
                return false;
            }
            if (negated) {
                negative |= variable;
            } else {
                positive |= variable;
            }
            place = BEHIND_LITERAL;
            return true;
        }

        private boolean acceptBehindLiteral(int token) {
            if (token == SEMICOLON) {
                return acceptEnd(token);
            }
            if (token == WEIGHT && weight != HARD_WEIGHT) {
                place = BEFORE_WEIGHT;
                return true;
            }
            return acceptLiteral(token);
        }

        private boolean acceptWeight(int token) {
            if (token < 1 || token > GREATEST_DIGIT) {
                return false;
            }
            weight = token;
            place = BEHIND_WEIGHT;
            return true;
        }

        private boolean acceptEnd(int token) {
            if (token != SEMICOLON) {
                return false;
            }
            parsed.add(modelsOfBody(), weight);
            place = BEFORE_CONSTRAINT;
            return true;
        }

        private long modelsOfBody() {
            long models = 0L;
            for (int assignment = 0; assignment < ASSIGNMENTS; assignment++) {
                int trueLiterals = Integer.bitCount(assignment & positive) + Integer.bitCount(~assignment & negative);
                if (bodyHolds(trueLiterals)) {
                    models |= 1L << assignment;
                }
            }
            return models;
        }

        private boolean bodyHolds(int trueLiterals) {
            if (kind == OR) {
                return trueLiterals > 0;
            }
            if (kind == XOR) {
                return (trueLiterals & 1) == 1;
            }
            return trueLiterals <= bound;
        }
    }

    /** The constraints of a system, each held as the set of the assignments that satisfy it. */
    private static final class Constraints {
        /** Bit a of models[i] tells whether assignment a satisfies constraint i. */
        private final long[] models = new long[CONSTRAINT_LIMIT];
        private final int[] weights = new int[CONSTRAINT_LIMIT];
        private int size;

        int size() {
            return size;
        }

        boolean isFull() {
            return size >= CONSTRAINT_LIMIT;
        }

        boolean has(int index) {
            return index >= 0 && index < size;
        }

        void clear() {
            size = 0;
        }

        void copyFrom(Constraints other) {
            System.arraycopy(other.models, 0, models, 0, CONSTRAINT_LIMIT);
            System.arraycopy(other.weights, 0, weights, 0, CONSTRAINT_LIMIT);
            size = other.size;
        }

        void add(long satisfying, int weight) {
            if (size < CONSTRAINT_LIMIT) {
                models[size] = satisfying;
                weights[size] = weight;
                size++;
            }
        }

        void delete(int index) {
            if (!has(index)) {
                return;
            }
            for (int i = index; i + 1 < size; i++) {
                models[i] = models[i + 1];
                weights[i] = weights[i + 1];
            }
            size--;
        }

        int weightOf(int index) {
            return has(index) ? weights[index] : HARD_WEIGHT;
        }

        boolean isHard(int index) {
            return weightOf(index) == HARD_WEIGHT;
        }

        void changeWeight(int index, int weight) {
            if (has(index)) {
                weights[index] = weight;
            }
        }

        int softMask() {
            int mask = 0;
            for (int i = 0; i < size; i++) {
                if (weights[i] != HARD_WEIGHT) {
                    mask |= 1 << i;
                }
            }
            return mask;
        }

        boolean isSelection(int number) {
            return number >= 0 && (number & ~softMask()) == 0;
        }

        int totalWeight(int selection) {
            int total = 0;
            for (int i = 0; i < size; i++) {
                if ((selection >> i & 1) == 1) {
                    total += weights[i];
                }
            }
            return total;
        }

        /** Returns the assignments that satisfy all hard constraints and those of the selection. */
        long modelsOf(int selection) {
            long common = ALL_ASSIGNMENTS;
            for (int i = 0; i < size; i++) {
                if (weights[i] == HARD_WEIGHT || (selection >> i & 1) == 1) {
                    common &= models[i];
                }
            }
            return common;
        }

        boolean isSatisfiable(int selection) {
            return modelsOf(selection) != 0L;
        }

        int smallestModel(int selection) {
            long found = modelsOf(selection);
            for (int assignment = 0; assignment < ASSIGNMENTS; assignment++) {
                if ((found >>> assignment & 1L) == 1L) {
                    return assignment;
                }
            }
            return NONE;
        }

        int violatedBy(int assignment) {
            int violations = 0;
            for (int i = 0; i < size; i++) {
                if ((models[i] >>> assignment & 1L) == 0L) {
                    violations |= 1 << i;
                }
            }
            return violations;
        }

        int grow(int selection) {
            int soft = softMask();
            int result = selection;
            for (int i = 0; i < size; i++) {
                int enlarged = result | (soft & 1 << i);
                if (isSatisfiable(enlarged)) {
                    result = enlarged;
                }
            }
            return result;
        }

        int shrink(int selection) {
            int result = selection;
            for (int i = 0; i < size; i++) {
                int reduced = result & ~(1 << i);
                if (!isSatisfiable(reduced)) {
                    result = reduced;
                }
            }
            return result;
        }

        int criticalOf(int selection) {
            int result = 0;
            for (int i = 0; i < size; i++) {
                int constraint = selection & 1 << i;
                if (isSatisfiable(selection & ~constraint)) {
                    result |= constraint;
                }
            }
            return result;
        }

        /**
         * Weights are positive, so the heaviest satisfiable selection is all that some assignment
         * satisfies, and it is enough to look at the assignments.
         */
        int heaviest() {
            int soft = softMask();
            int best = NONE;
            int bestWeight = 0;
            for (int assignment = 0; assignment < ASSIGNMENTS; assignment++) {
                int violations = violatedBy(assignment);
                if ((violations & ~soft) == 0) {
                    int satisfied = soft & ~violations;
                    int total = totalWeight(satisfied);
                    boolean better = total > bestWeight || total == bestWeight && satisfied < best;
                    if (best == NONE || better) {
                        best = satisfied;
                        bestWeight = total;
                    }
                }
            }
            return best;
        }
    }

    /** Selections in the order in which they were found. */
    private static final class SelectionList {
        private final int[] selections = new int[LIST_LIMIT];
        private int size;

        int size() {
            return size;
        }

        /** Returns the selection at a position, NONE if the list has no such position. */
        int get(int position) {
            if (position < 0 || position >= size) {
                return NONE;
            }
            return selections[position];
        }

        void add(int selection) {
            if (size < LIST_LIMIT) {
                selections[size] = selection;
                size++;
            }
        }

        void clear() {
            size = 0;
        }

        void copyFrom(SelectionList other) {
            System.arraycopy(other.selections, 0, selections, 0, LIST_LIMIT);
            size = other.size;
        }
    }

    /** What undo() and the snapshots bring back: the constraints, the strategy and both lists. */
    private static final class State {
        private final Constraints system = new Constraints();
        private final SelectionList muses = new SelectionList();
        private final SelectionList msses = new SelectionList();
        /** Follows from both lists; kept beside them so that a step need not go through them again. */
        private final long[] explored = new long[EXPLORED_WORDS];
        private int strategy = LARGEST_FIRST;

        Constraints system() {
            return system;
        }

        SelectionList muses() {
            return muses;
        }

        SelectionList msses() {
            return msses;
        }

        int strategy() {
            return strategy;
        }

        void copyFrom(State other) {
            system.copyFrom(other.system);
            muses.copyFrom(other.muses);
            msses.copyFrom(other.msses);
            System.arraycopy(other.explored, 0, explored, 0, EXPLORED_WORDS);
            strategy = other.strategy;
        }

        void replaceSystem(Constraints other) {
            system.copyFrom(other);
            forgetFindings();
        }

        void deleteConstraint(int index) {
            system.delete(index);
            forgetFindings();
        }

        void changeHardness(int index, boolean hard) {
            system.changeWeight(index, hard ? HARD_WEIGHT : DEFAULT_WEIGHT);
            forgetFindings();
        }

        void changeStrategy(int wanted) {
            strategy = wanted;
        }

        private void forgetFindings() {
            muses.clear();
            msses.clear();
            for (int word = 0; word < EXPLORED_WORDS; word++) {
                explored[word] = 0L;
            }
        }

        private boolean isExplored(int selection) {
            int word = selection >> 6;
            return word >= 0 && word < EXPLORED_WORDS && (explored[word] >>> (selection & 63) & 1L) == 1L;
        }

        private void markExplored(int selection) {
            int word = selection >> 6;
            if (word >= 0 && word < EXPLORED_WORDS) {
                explored[word] |= 1L << (selection & 63);
            }
        }

        int countUnexplored() {
            int soft = system.softMask();
            int count = 0;
            for (int selection = 0; selection <= soft; selection++) {
                if ((selection & ~soft) == 0 && !isExplored(selection)) {
                    count++;
                }
            }
            return count;
        }

        /** Goes upwards and takes only what is better, so that the smallest number wins a tie. */
        int nextSeed() {
            int soft = system.softMask();
            int best = NONE;
            int bestSize = 0;
            for (int selection = 0; selection <= soft; selection++) {
                if ((selection & ~soft) == 0 && !isExplored(selection)) {
                    int size = Integer.bitCount(selection);
                    boolean better = strategy == LARGEST_FIRST ? size > bestSize : size < bestSize;
                    if (best == NONE || better) {
                        best = selection;
                        bestSize = size;
                    }
                }
            }
            return best;
        }

        /** Performs the step that takes the given seed. */
        int explore(int start) {
            if (system.isSatisfiable(start)) {
                recordMss(system.grow(start));
                return FOUND_MSS;
            }
            recordMus(system.shrink(start));
            return FOUND_MUS;
        }

        private void recordMss(int found) {
            msses.add(found);
            for (int selection = 0; selection <= found; selection++) {
                if ((selection & ~found) == 0) {
                    markExplored(selection);
                }
            }
        }

        private void recordMus(int found) {
            muses.add(found);
            int soft = system.softMask();
            for (int selection = found; selection <= soft; selection++) {
                if ((selection & ~soft) == 0 && (selection & found) == found) {
                    markExplored(selection);
                }
            }
        }

        /** Goes upwards and takes only what is better, so that the smallest number wins a tie. */
        int leastHittingSet(boolean byWeight) {
            int soft = system.softMask();
            int best = NONE;
            int bestCost = 0;
            for (int selection = 0; selection <= soft; selection++) {
                if ((selection & ~soft) == 0) {
                    int cost = byWeight ? system.totalWeight(selection) : Integer.bitCount(selection);
                    if ((best == NONE || cost < bestCost) && hitsEveryMus(selection)) {
                        best = selection;
                        bestCost = cost;
                    }
                }
            }
            return best;
        }

        private boolean hitsEveryMus(int selection) {
            for (int position = 0; position < muses.size(); position++) {
                if ((muses.get(position) & selection) == 0) {
                    return false;
                }
            }
            return true;
        }

        int blameOf(int index) {
            int total = 0;
            for (int position = 0; position < muses.size(); position++) {
                int found = muses.get(position);
                int size = Integer.bitCount(found);
                if (size > 0 && (found >> index & 1) == 1) {
                    total += BLAME_OF_A_MUS / size;
                }
            }
            return total;
        }
    }

    /** The states saved for undo(), in a ring: a new one takes the place of the oldest when all are taken. */
    private static final class History {
        private final State[] saved = new State[UNDO_LIMIT];
        private int newest;
        private int depth;

        int depth() {
            return depth;
        }

        void clear() {
            depth = 0;
        }

        void push(State state) {
            newest = newest + 1 < UNDO_LIMIT ? newest + 1 : 0;
            State room = saved[newest];
            if (room == null) {
                room = new State();
                saved[newest] = room;
            }
            room.copyFrom(state);
            if (depth < UNDO_LIMIT) {
                depth++;
            }
        }

        /** Puts the newest saved state into the given one; answers false if none is saved. */
        boolean pop(State into) {
            State last = saved[newest];
            if (depth == 0 || last == null) {
                return false;
            }
            into.copyFrom(last);
            newest = newest > 0 ? newest - 1 : UNDO_LIMIT - 1;
            depth--;
            return true;
        }
    }
}
