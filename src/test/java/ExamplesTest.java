/** The four examples of the document's section "Description", word for word. */
public final class ExamplesTest {
    public static void main(String[] args) {
        Script.of("example 1").due("append(111) = 1; append(114) = 2; append(49) = 3; append(59) = 4; append(111) = 5; "
            + "append(114) = 6; append(45) = 7; append(49) = 8; append(59) = 9; load() = 2; seed() = 3; step() = 2; "
            + "mus(0) = 3; step() = 1; mss(0) = 1; unexploredCount() = 1.");
        Script.of("example 2").due("append(111) = 1; append(114) = 2; append(49) = 3; append(59) = 4; append(111) = 5; "
            + "append(114) = 6; append(45) = 7; append(49) = 8; append(59) = 9; load() = 2; setWeight(0, 3) = 1; "
            + "finish() = 3; cheapestHittingSet() = 2; heaviestSatisfiable() = 1; undo() = 2; musCount() = 0.");
        Script.of("example 3").due("append(111) = 1; append(114) = 2; append(49) = 3; append(32) = 4; append(45) = 5; "
            + "append(49) = 6; append(59) = 7; load() = -15; clearText() = 7; load() = 0; constraintCount() = 0; "
            + "step() = 1; mss(0) = 0; step() = -2.");
        Script.of("example 4").due("shrunk(0) = -2; grown(0) = 0; setStrategy(0) = -2; setStrategy(1) = 0; "
            + "setStrategy(2) = -1; mus(-1) = -1; mus(0) = -9; undo() = 0; undo() = -2.");
        Script.end();
    }
}
