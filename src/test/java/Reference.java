import java.util.ArrayDeque;
import java.util.ArrayList;
import java.util.List;

/** The document once more, as literally and as slowly as it can be put, to compare the class with. */
final class Reference {
    private record Constraint(String kind, int bound, List<Integer> literals, boolean hard, int weight) {
        boolean holds(int assignment) {
            int count = 0;
            for (int literal : literals) {
                boolean value = (assignment >> (Math.abs(literal) - 1) & 1) == 1;
                if (value == literal > 0) {
                    count++;
                }
            }
            return switch (kind) {
                case "or" -> count >= 1;
                case "xor" -> count % 2 == 1;
                default -> count <= bound;
            };
        }
    }

    private record State(List<Constraint> constraints, int strategy, List<Integer> muses, List<Integer> msses) {
    }

    private record Token(String sign, int position) {
    }

    private static final class ParseError extends Exception {
        private static final long serialVersionUID = 1L;
        private final int position;

        ParseError(int position) {
            this.position = position;
        }
    }

    private String text = "";
    private State state = new State(List.of(), 0, List.of(), List.of());
    private final ArrayDeque<State> saved = new ArrayDeque<>();
    private final State[] slots = new State[2];

    /** Answers a call of the public face. */
    int call(String method, int a, int b) {
        return switch (method) {
            case "append" -> append(a);
            case "clearText" -> clearText();
            case "load" -> load();
            case "remove" -> remove(a);
            case "setHard" -> setHard(a, b);
            case "setWeight" -> setWeight(a, b);
            case "setStrategy" -> setStrategy(a);
            case "step" -> seed() == -9 ? -2 : change(state, oneStep());
            case "finish" -> finish();
            case "undo" -> undo();
            case "seed" -> seed();
            case "unexploredCount" -> unexplored().size();
            case "musCount" -> state.muses.size();
            case "mus" -> a < 0 ? -1 : a < state.muses.size() ? state.muses.get(a) : -9;
            case "mssCount" -> state.msses.size();
            case "mss" -> a < 0 ? -1 : a < state.msses.size() ? state.msses.get(a) : -9;
            case "weight" -> !exists(a) ? -1 : hard(a) ? 0 : at(a).weight;
            case "violated" -> violated(a);
            case "modelCount" -> !valid(a) ? -1 : models(a).size();
            case "firstModel" -> !valid(a) ? -1 : models(a).isEmpty() ? -9 : models(a).get(0);
            case "grown" -> !valid(a) ? -1 : unsatisfiable(a) ? -2 : grow(a);
            case "shrunk" -> !valid(a) ? -1 : unsatisfiable(a) ? shrink(a) : -2;
            case "critical" -> !valid(a) ? -1 : unsatisfiable(a) ? critical(a) : -2;
            case "smallestHittingSet" -> hittingSet(false);
            case "cheapestHittingSet" -> hittingSet(true);
            case "heaviestSatisfiable" -> heaviest();
            case "blame" -> blame(a);
            case "save" -> save(a);
            case "restore" -> restore(a);
            case "constraintCount" -> state.constraints.size();
            case "softConstraints" -> soft();
            case "undoDepth" -> saved.size();
            default -> throw new IllegalArgumentException(method);
        };
    }

    // ---- text

    private int append(int character) {
        if (character < 0 || character > 255) {
            return -1;
        }
        if (text.length() == 120) {
            return -3;
        }
        text += (char) character;
        return text.length();
    }

    private int clearText() {
        int length = text.length();
        text = "";
        return length;
    }

    private int load() {
        List<Constraint> parsed;
        try {
            parsed = parse();
        } catch (ParseError error) {
            return -10 - error.position;
        }
        text = "";
        slots[0] = null;
        slots[1] = null;
        return change(new State(parsed, state.strategy, List.of(), List.of()), parsed.size());
    }

    private List<Token> tokens() {
        List<Token> tokens = new ArrayList<>();
        int i = 0;
        while (i < text.length()) {
            int start = i;
            while (i < text.length() && text.charAt(i) >= 'a' && text.charAt(i) <= 'z') {
                i++;
            }
            if (i == start) {
                i++;
            }
            if (text.charAt(start) != ' ') {
                tokens.add(new Token(text.substring(start, i), start));
            }
        }
        // The end of the text is a token that nothing accepts within a constraint.
        tokens.add(new Token("", text.length()));
        return tokens;
    }

    private List<Constraint> parse() throws ParseError {
        List<Token> tokens = tokens();
        List<Constraint> parsed = new ArrayList<>();
        int[] next = {0};
        while (!tokens.get(next[0]).sign.isEmpty()) {
            if (parsed.size() == 10) {
                throw new ParseError(tokens.get(next[0]).position);
            }
            parsed.add(parseConstraint(tokens, next));
        }
        return parsed;
    }

    private static Constraint parseConstraint(List<Token> tokens, int[] next) throws ParseError {
        boolean hard = tokens.get(next[0]).sign.equals("hard");
        if (hard) {
            next[0]++;
        }
        String kind = take(tokens, next, List.of("or", "xor", "most"));
        int bound = kind.equals("most") ? Integer.parseInt(take(tokens, next, digits(0, 6))) : 0;
        List<Integer> literals = new ArrayList<>();
        do {
            boolean negated = tokens.get(next[0]).sign.equals("-");
            if (negated) {
                next[0]++;
            }
            List<String> unused = digits(1, 6);
            for (int literal : literals) {
                unused.remove(String.valueOf(Math.abs(literal)));
            }
            int variable = Integer.parseInt(take(tokens, next, unused));
            literals.add(negated ? -variable : variable);
        } while (tokens.get(next[0]).sign.matches("[-0-9]"));
        int weight = 1;
        if (!hard && tokens.get(next[0]).sign.equals("w")) {
            next[0]++;
            weight = Integer.parseInt(take(tokens, next, digits(1, 9)));
        }
        take(tokens, next, List.of(";"));
        return new Constraint(kind, bound, literals, hard, weight);
    }

    private static List<String> digits(int from, int to) {
        List<String> signs = new ArrayList<>();
        for (int digit = from; digit <= to; digit++) {
            signs.add(String.valueOf(digit));
        }
        return signs;
    }

    private static String take(List<Token> tokens, int[] next, List<String> allowed) throws ParseError {
        Token token = tokens.get(next[0]);
        if (!allowed.contains(token.sign)) {
            throw new ParseError(token.position);
        }
        next[0]++;
        return token.sign;
    }

    // ---- changes and their undoing

    /** Takes up a new state, saves the old one and hands the answer through. */
    private int change(State after, int answer) {
        return change(state, after, answer);
    }

    /** For a step that has already changed the state: saves what preceded it. */
    private int change(State before, State after, int answer) {
        saved.addLast(before);
        if (saved.size() > 5) {
            saved.removeFirst();
        }
        state = after;
        return answer;
    }

    private record Step(State after, int answer) {
    }

    private int change(State before, Step step) {
        return change(before, step.after, step.answer);
    }

    private int remove(int index) {
        if (!exists(index)) {
            return -1;
        }
        List<Constraint> left = new ArrayList<>(state.constraints);
        left.remove(index);
        return change(new State(left, state.strategy, List.of(), List.of()), left.size());
    }

    private int setHard(int index, int hard) {
        if (!exists(index) || hard != 0 && hard != 1) {
            return -1;
        }
        Constraint old = at(index);
        if (old.hard == (hard == 1)) {
            return -2;
        }
        List<Constraint> changed = new ArrayList<>(state.constraints);
        changed.set(index, new Constraint(old.kind, old.bound, old.literals, hard == 1, 1));
        change(new State(changed, state.strategy, List.of(), List.of()), 0);
        return Integer.bitCount(soft());
    }

    private int setWeight(int index, int weight) {
        if (!exists(index) || weight < 1 || weight > 9) {
            return -1;
        }
        Constraint old = at(index);
        if (old.hard || old.weight == weight) {
            return -2;
        }
        List<Constraint> changed = new ArrayList<>(state.constraints);
        changed.set(index, new Constraint(old.kind, old.bound, old.literals, false, weight));
        return change(new State(changed, state.strategy, state.muses, state.msses), old.weight);
    }

    private int setStrategy(int strategy) {
        if (strategy != 0 && strategy != 1) {
            return -1;
        }
        if (strategy == state.strategy) {
            return -2;
        }
        return change(new State(state.constraints, strategy, state.muses, state.msses), state.strategy);
    }

    private int undo() {
        if (saved.isEmpty()) {
            return -2;
        }
        state = saved.removeLast();
        return saved.size();
    }

    private int save(int slot) {
        if (slot != 0 && slot != 1) {
            return -1;
        }
        slots[slot] = state;
        return state.constraints.size();
    }

    private int restore(int slot) {
        if (slot != 0 && slot != 1) {
            return -1;
        }
        if (slots[slot] == null) {
            return -2;
        }
        state = slots[slot];
        saved.clear();
        return state.constraints.size();
    }

    // ---- enumeration

    private Step oneStep() {
        int seed = seed();
        List<Integer> muses = new ArrayList<>(state.muses);
        List<Integer> msses = new ArrayList<>(state.msses);
        boolean isMus = unsatisfiable(seed);
        if (isMus) {
            muses.add(shrink(seed));
        } else {
            msses.add(grow(seed));
        }
        return new Step(new State(state.constraints, state.strategy, muses, msses), isMus ? 2 : 1);
    }

    private int finish() {
        State before = state;
        int steps = 0;
        while (seed() != -9) {
            state = oneStep().after;
            steps++;
        }
        return steps == 0 ? -2 : change(before, state, steps);
    }

    private List<Integer> unexplored() {
        List<Integer> found = new ArrayList<>();
        for (int selection = 0; selection < 1024; selection++) {
            if (valid(selection) && !explored(selection)) {
                found.add(selection);
            }
        }
        return found;
    }

    private boolean explored(int selection) {
        for (int mss : state.msses) {
            if ((selection | mss) == mss) {
                return true;
            }
        }
        for (int mus : state.muses) {
            if ((selection | mus) == selection) {
                return true;
            }
        }
        return false;
    }

    private int seed() {
        int best = -9;
        for (int selection : unexplored()) {
            int more = Integer.bitCount(selection) - Integer.bitCount(best);
            if (best == -9 || (state.strategy == 0 ? more > 0 : more < 0)) {
                best = selection;
            }
        }
        return best;
    }

    private int grow(int selection) {
        for (int i = 0; i < 10; i++) {
            if (valid(1 << i) && !unsatisfiable(selection | 1 << i)) {
                selection |= 1 << i;
            }
        }
        return selection;
    }

    private int shrink(int selection) {
        for (int i = 0; i < 10; i++) {
            if ((selection >> i & 1) == 1 && unsatisfiable(selection - (1 << i))) {
                selection -= 1 << i;
            }
        }
        return selection;
    }

    // ---- constraints and selections

    private boolean exists(int index) {
        return index >= 0 && index < state.constraints.size();
    }

    private Constraint at(int index) {
        return state.constraints.get(index);
    }

    private boolean hard(int index) {
        return at(index).hard;
    }

    private int soft() {
        int soft = 0;
        for (int i = 0; i < state.constraints.size(); i++) {
            soft += hard(i) ? 0 : 1 << i;
        }
        return soft;
    }

    private boolean valid(int selection) {
        if (selection < 0) {
            return false;
        }
        for (int i = 0; i < 31; i++) {
            if ((selection >> i & 1) == 1 && (!exists(i) || hard(i))) {
                return false;
            }
        }
        return true;
    }

    private int violated(int assignment) {
        if (assignment < 0 || assignment > 63) {
            return -1;
        }
        int result = 0;
        for (int i = 0; i < state.constraints.size(); i++) {
            result += at(i).holds(assignment) ? 0 : 1 << i;
        }
        return result;
    }

    private List<Integer> models(int selection) {
        List<Integer> found = new ArrayList<>();
        for (int assignment = 0; assignment < 64; assignment++) {
            boolean all = true;
            for (int i = 0; i < state.constraints.size(); i++) {
                if ((hard(i) || (selection >> i & 1) == 1) && !at(i).holds(assignment)) {
                    all = false;
                    break;
                }
            }
            if (all) {
                found.add(assignment);
            }
        }
        return found;
    }

    private boolean unsatisfiable(int selection) {
        return models(selection).isEmpty();
    }

    private int critical(int selection) {
        int result = 0;
        for (int i = 0; i < 10; i++) {
            if ((selection >> i & 1) == 1 && !unsatisfiable(selection - (1 << i))) {
                result += 1 << i;
            }
        }
        return result;
    }

    private int weightOf(int selection) {
        int total = 0;
        for (int i = 0; i < state.constraints.size(); i++) {
            total += (selection >> i & 1) == 1 ? at(i).weight : 0;
        }
        return total;
    }

    private int hittingSet(boolean byWeight) {
        int best = -9;
        int bestCost = Integer.MAX_VALUE;
        for (int selection = 0; selection < 1024; selection++) {
            if (!valid(selection)) {
                continue;
            }
            boolean hits = true;
            for (int mus : state.muses) {
                hits &= (mus & selection) != 0;
            }
            int cost = byWeight ? weightOf(selection) : Integer.bitCount(selection);
            if (hits && cost < bestCost) {
                best = selection;
                bestCost = cost;
            }
        }
        return best;
    }

    private int heaviest() {
        int best = -9;
        int bestWeight = -1;
        for (int selection = 0; selection < 1024; selection++) {
            if (valid(selection) && weightOf(selection) > bestWeight && !unsatisfiable(selection)) {
                best = selection;
                bestWeight = weightOf(selection);
            }
        }
        return best;
    }

    private int blame(int index) {
        if (!exists(index)) {
            return -1;
        }
        int total = 0;
        for (int mus : state.muses) {
            total += (mus >> index & 1) == 1 ? 1000 / Integer.bitCount(mus) : 0;
        }
        return total;
    }
}
