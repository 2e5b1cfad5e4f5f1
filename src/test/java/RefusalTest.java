import java.util.List;

/**
 * "A call that returns an error code changes nothing. If several error conditions apply, the method
 * returns the one that its description lists first." Every call that can be refused, in objects that
 * have something to lose: text, lists, strategy, undo history and slots.
 */
public final class RefusalTest {
    private static final int LEAST = Integer.MIN_VALUE;
    private static final int GREATEST = Integer.MAX_VALUE;

    public static void main(String[] args) {
        for (Script scene : scenes()) {
            refuseArguments(scene);
        }
        newObject();
        textBegun();
        halfExplored();
        complete();
        hardConflict();
        fullText();
        sevenErrorsInARow();
        Script.end();
    }

    private static List<Script> scenes() {
        return List.of(Script.of("new object, wrong arguments"), textBegunScene(), halfExploredScene(), completeScene(),
            hardConflictScene(), fullTextScene());
    }

    private static Script textBegunScene() {
        return Script.of("a text is begun").text("or1;or").due("setStrategy(1) = 0");
    }

    /** Constraints 0 (weight 5) and 1 contradict each other, 2 is hard, 3 (weight 9) goes with all. */
    private static Script halfExploredScene() {
        return Script.loaded("half explored", "or1w5;or-1;hard or2;or3w9;", 4).due("setStrategy(1) = 0; save(0) = 4; step() = 1")
            .text("or7;");
    }

    /** The same system, with a full history, both slots filled, the enumeration complete. */
    private static Script completeScene() {
        return Script.loaded("complete", "or1w5;or-1;hard or2;or3w9;", 4).due("save(0) = 4; step() = 2; setWeight(1, 2) = 1; "
            + "setWeight(1, 3) = 2; save(1) = 4; setStrategy(1) = 0; setStrategy(0) = 1; finish() = 2; undoDepth() = 5")
            .text("or1");
    }

    private static Script hardConflictScene() {
        return Script.loaded("hard conflict", "hard or1;hard or-1;or3w2;or4;", 4).due("step() = 2; save(1) = 4; "
            + "setWeight(3, 9) = 1").text(";");
    }

    private static Script fullTextScene() {
        return Script.loaded("full text", "or1;or-1;hard or2;or3;", 4).due("save(0) = 4; step() = 2; save(1) = 4").text("or1;"
            + " ".repeat(115) + "x");
    }

    /** Arguments that are out of range in every scene: none has more than four constraints. */
    private static void refuseArguments(Script scene) {
        scene.invalid("append", -1, 256, LEAST, GREATEST);
        for (String method : new String[] {"remove", "weight", "blame"}) {
            scene.invalid(method, -1, 4, 10, LEAST, GREATEST);
        }
        for (String method : new String[] {"setStrategy", "save", "restore"}) {
            scene.invalid(method, -1, 2, LEAST, GREATEST);
        }
        for (String method : new String[] {"mus", "mss"}) {
            scene.invalid(method, -1, LEAST).unchanged(method + "(" + GREATEST + ") = -9; " + method + "(10) = -9");
        }
        for (String method : new String[] {"modelCount", "firstModel", "grown", "shrunk", "critical"}) {
            scene.invalid(method, -1, 16, 1023, 1024, LEAST, GREATEST);
        }
        scene.invalid("violated", -1, 64, LEAST, GREATEST);
        for (int wrong : new int[] {-1, 4, 10, LEAST, GREATEST}) {
            scene.unchanged("setHard(" + wrong + ", 0) = -1; setHard(" + wrong + ", 1) = -1; setWeight(" + wrong + ", 1) = -1; "
                + "setWeight(" + wrong + ", 9) = -1");
        }
        for (int constraint = 0; constraint < 4; constraint++) {
            scene.unchanged("setHard(" + constraint + ", -1) = -1; setHard(" + constraint + ", 2) = -1; setWeight(" + constraint
                + ", 0) = -1; setWeight(" + constraint + ", 10) = -1; setHard(" + constraint + ", " + GREATEST + ") = -1; "
                + "setWeight(" + constraint + ", " + LEAST + ") = -1");
        }
    }

    private static void newObject() {
        Script.of("new object").unchanged("setStrategy(0) = -2; undo() = -2; restore(0) = -2; restore(1) = -2; shrunk(0) = -2; "
            + "critical(0) = -2; mus(0) = -9; mss(0) = -9");
    }

    private static void textBegun() {
        textBegunScene().unchanged("load() = -16; setStrategy(1) = -2; restore(0) = -2; restore(1) = -2; shrunk(0) = -2; "
            + "critical(0) = -2").due("undo() = 0; append(50) = 7; append(59) = 8; load() = 2");
    }

    private static void halfExplored() {
        halfExploredScene().unchanged("load() = -12; setHard(0, 0) = -2; setHard(2, 1) = -2; setHard(3, 0) = -2; "
            + "setWeight(0, 5) = -2; setWeight(1, 1) = -2; setWeight(2, 1) = -2; setWeight(2, 9) = -2; setWeight(3, 9) = -2; "
            + "setStrategy(1) = -2; restore(1) = -2; firstModel(3) = -9; grown(3) = -2; grown(11) = -2; shrunk(0) = -2; "
            + "shrunk(9) = -2; critical(1) = -2; critical(10) = -2; mus(0) = -9; mss(1) = -9; modelCount(4) = -1; "
            + "firstModel(4) = -1; grown(7) = -1; shrunk(5) = -1; critical(5) = -1").due("mss(0) = 9; undoDepth() = 3; "
            + "clearText() = 4");
    }

    private static void complete() {
        completeScene().unchanged("load() = -13; step() = -2; finish() = -2; seed() = -9; setHard(0, 0) = -2; "
            + "setHard(2, 1) = -2; setWeight(1, 3) = -2; setWeight(2, 5) = -2; setStrategy(0) = -2; mus(1) = -9; mss(2) = -9; "
            + "grown(3) = -2; shrunk(8) = -2; critical(8) = -2; firstModel(3) = -9").due("undo() = 4; mssCount() = 0; "
            + "undo() = 3; undo() = 2; weight(1) = 3; undo() = 1; weight(1) = 2; undo() = 0; weight(1) = 1; musCount() = 1; "
            + "undo() = -2");
    }

    private static void hardConflict() {
        hardConflictScene().unchanged("load() = -10; step() = -2; finish() = -2; seed() = -9; smallestHittingSet() = -9; "
            + "cheapestHittingSet() = -9; heaviestSatisfiable() = -9; firstModel(0) = -9; firstModel(12) = -9; grown(0) = -2; "
            + "grown(12) = -2; restore(0) = -2; setHard(0, 1) = -2; setHard(1, 1) = -2; setHard(2, 0) = -2; "
            + "setWeight(0, 1) = -2; setWeight(2, 2) = -2; setWeight(3, 9) = -2; setStrategy(0) = -2; mus(1) = -9; mss(0) = -9")
            .due("mus(0) = 0; undo() = 2; weight(3) = 1");
    }

    private static void fullText() {
        fullTextScene().unchanged("append(0) = -3; append(32) = -3; append(59) = -3; append(255) = -3; append(-1) = -1; "
            + "append(256) = -1; load() = -129; setStrategy(0) = -2").due("clearText() = 120; load() = 0");
    }

    /** Seven refused calls that would each save a state leave a history of five as it was. */
    private static void sevenErrorsInARow() {
        Script.loaded("refused calls save no state", "or1;or-1;", 2).due("setWeight(0, 2) = 1; setWeight(0, 3) = 2; "
            + "finish() = 3; setWeight(0, 4) = 3; undoDepth() = 5").text("x").due("load() = -10; remove(2) = -1; "
            + "setHard(0, 0) = -2; setWeight(0, 4) = -2; setStrategy(0) = -2; step() = -2; finish() = -2; undoDepth() = 5; "
            + "undo() = 4; weight(0) = 3; undo() = 3; musCount() = 0; undo() = 2; weight(0) = 2; undo() = 1; weight(0) = 1; "
            + "undo() = 0; constraintCount() = 0; undo() = -2; clearText() = 1");
    }
}
