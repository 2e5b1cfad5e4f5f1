import java.util.ArrayList;
import java.util.List;
import java.util.Random;

/** Long runs of chosen and of wild calls, each answered by the class and by the reference alike. */
public final class ReferenceTest {
    private static final int OBJECTS = 1500;
    private static final int CALLS = 512;
    private static final int[] WILD = {
        Integer.MIN_VALUE, Integer.MAX_VALUE, -1, -2, -1024, 0, 1, 2, 6, 9, 10, 11, 32, 63, 64, 120, 255, 256, 511, 1023, 1024, 65536,
    };
    private static final String[] PLAIN = {
        "step", "step", "step", "finish", "undo", "seed", "unexploredCount", "musCount", "mssCount", "smallestHittingSet",
        "cheapestHittingSet", "heaviestSatisfiable", "constraintCount", "softConstraints", "undoDepth",
    };
    private static final String[] INDEXED = {"weight", "blame", "mus", "mss", "mus", "mss"};
    private static final String[] SELECTING = {"modelCount", "firstModel", "grown", "shrunk", "critical"};
    private static final String[] TOKENS = {
        "or", "xor", "most", "hard", "w", "-", ";", "0", "1", "2", "3", "4", "5", "6", "7", "9", " ", "x", "A", "\t", "\u00ff",
    };

    /** The random numbers of a fixed seed, so that every run of the test makes the same calls. */
    private final Random random = new Random(20261117L);
    private ConflictEnumerator object;
    private Reference reference;
    private List<String> told;
    private int left;

    public static void main(String[] args) {
        ReferenceTest test = new ReferenceTest();
        for (int i = 0; i < OBJECTS; i++) {
            if (!test.runOneObject()) {
                System.exit(1);
            }
        }
    }

    private boolean runOneObject() {
        object = new ConflictEnumerator();
        reference = new Reference();
        told = new ArrayList<>();
        left = CALLS;
        while (left > 0) {
            if (!someCalls()) {
                System.out.println(String.join("\n", told));
                return false;
            }
        }
        return true;
    }

    private boolean someCalls() {
        int dice = random.nextInt(100);
        if (dice < 1 || left == CALLS) {
            return type(random.nextInt(4) == 0 ? brokenSystem() : system());
        }
        if (dice < 2) {
            return play("clearText", 0, 0);
        }
        if (dice < 40) {
            return play(pick(PLAIN), 0, 0);
        }
        if (dice < 55) {
            return play(pick(INDEXED), random.nextInt(12) - 1, 0);
        }
        if (dice < 70) {
            return play(pick(SELECTING), selection(), 0);
        }
        if (dice < 88) {
            return changeOfState();
        }
        if (dice < 92) {
            return play("violated", random.nextInt(66) - 1, 0);
        }
        return wildCall();
    }

    private boolean changeOfState() {
        return switch (random.nextInt(16)) {
            case 0 -> play("remove", random.nextInt(11) - 1, 0);
            case 1, 2 -> play("setHard", random.nextInt(11) - 1, random.nextInt(2));
            case 3, 4, 5 -> play("setWeight", random.nextInt(11) - 1, random.nextInt(11));
            case 6, 7, 8 -> play("setStrategy", random.nextInt(2), 0);
            case 9, 10 -> play("save", random.nextInt(2), 0);
            case 11 -> play("restore", random.nextInt(2), 0);
            default -> play("step", 0, 0);
        };
    }

    private boolean wildCall() {
        String[] methods = {
            "append", "remove", "setHard", "setWeight", "setStrategy", "mus", "mss", "weight", "violated", "modelCount", "firstModel",
            "grown", "shrunk", "critical", "blame", "save", "restore",
        };
        return play(pick(methods), WILD[random.nextInt(WILD.length)], WILD[random.nextInt(WILD.length)]);
    }

    private int selection() {
        int soft = object.softConstraints();
        return random.nextInt(10) == 0 ? random.nextInt(1100) - 10 : soft & random.nextInt(1024);
    }

    private boolean type(String text) {
        if (random.nextInt(4) > 0 && !play("clearText", 0, 0)) {
            return false;
        }
        for (int i = 0; i < text.length(); i++) {
            if (!play("append", text.charAt(i), 0)) {
                return false;
            }
        }
        return play("load", 0, 0);
    }

    private String system() {
        StringBuilder text = new StringBuilder();
        int constraints = random.nextInt(3) == 0 ? random.nextInt(12) : 6 + random.nextInt(5);
        int variables = 1 + random.nextInt(6);
        int literals = 1 + random.nextInt(3);
        for (int i = 0; i < constraints; i++) {
            text.append(constraint(variables, literals));
        }
        return text.toString();
    }

    private String constraint(int variables, int mostLiterals) {
        StringBuilder text = new StringBuilder();
        boolean hard = random.nextInt(12) == 0;
        text.append(hard ? "hard " : "");
        int kind = random.nextInt(3);
        text.append(kind == 0 ? "or" : kind == 1 ? "xor" : "most" + random.nextInt(3));
        int used = 0;
        int literals = 1 + random.nextInt(mostLiterals);
        for (int i = 0; i < literals; i++) {
            int variable = 1 + random.nextInt(variables);
            if ((used >> variable & 1) == 0) {
                used |= 1 << variable;
                text.append(random.nextBoolean() ? "-" : "").append(variable).append(random.nextInt(8) == 0 ? " " : "");
            }
        }
        text.append(!hard && random.nextInt(3) == 0 ? "w" + (1 + random.nextInt(9)) : "");
        return text.append(";").toString();
    }

    private String brokenSystem() {
        StringBuilder text = new StringBuilder(system());
        int changes = 1 + random.nextInt(2);
        for (int i = 0; i < changes; i++) {
            int place = random.nextInt(text.length() + 1);
            if (random.nextBoolean() && place < text.length()) {
                text.deleteCharAt(place);
            } else {
                text.insert(place, pick(TOKENS));
            }
        }
        return text.toString();
    }

    private String pick(String[] from) {
        return from[random.nextInt(from.length)];
    }

    /** Plays one call on both; answers false if the object's answer is not the reference's. */
    private boolean play(String method, int a, int b) {
        if (left == 0) {
            return true;
        }
        left--;
        int want = reference.call(method, a, b);
        int got = answer(method, a, b);
        told.add(method + "(" + a + ", " + b + ") answered " + got + ", due is " + want);
        return got == want;
    }

    private int answer(String method, int a, int b) {
        return switch (method) {
            case "append" -> object.append(a);
            case "clearText" -> object.clearText();
            case "load" -> object.load();
            case "remove" -> object.remove(a);
            case "setHard" -> object.setHard(a, b);
            case "setWeight" -> object.setWeight(a, b);
            case "setStrategy" -> object.setStrategy(a);
            case "step" -> object.step();
            case "finish" -> object.finish();
            case "undo" -> object.undo();
            case "seed" -> object.seed();
            case "unexploredCount" -> object.unexploredCount();
            case "musCount" -> object.musCount();
            case "mus" -> object.mus(a);
            case "mssCount" -> object.mssCount();
            case "mss" -> object.mss(a);
            case "weight" -> object.weight(a);
            case "violated" -> object.violated(a);
            case "modelCount" -> object.modelCount(a);
            case "firstModel" -> object.firstModel(a);
            case "grown" -> object.grown(a);
            case "shrunk" -> object.shrunk(a);
            case "critical" -> object.critical(a);
            case "smallestHittingSet" -> object.smallestHittingSet();
            case "cheapestHittingSet" -> object.cheapestHittingSet();
            case "heaviestSatisfiable" -> object.heaviestSatisfiable();
            case "blame" -> object.blame(a);
            case "save" -> object.save(a);
            case "restore" -> object.restore(a);
            case "constraintCount" -> object.constraintCount();
            case "softConstraints" -> object.softConstraints();
            case "undoDepth" -> object.undoDepth();
            default -> throw new IllegalArgumentException(method);
        };
    }
}
