/**
 * The undo history and the snapshot slots at every limit that the document names. A test's name is
 * the sentence that it tests, or what the sentence is about.
 */
public final class HistoryBoundaryTest {
    private static final int LEAST = Integer.MIN_VALUE;
    private static final int GREATEST = Integer.MAX_VALUE;
    /** MUS 3, MSSes 5 and 6. */
    private static final String PAIR = "or1w2;or-1w3;or2w4;";

    public static void main(String[] args) {
        nothingSaved();
        everySavingCall();
        noOtherCallSaves();
        lessThanFive();
        exactlyFive();
        aSixth();
        farMoreThanFive();
        wrapAround();
        everyPartOfTheState();
        whatTheListsHeld();
        finishWithAFullHistory();
        textIsNoState();
        slotNumbers();
        emptySlots();
        slotIsKept();
        slotIsACopy();
        slotIsOverwritten();
        twoSlots();
        restoreDiscardsTheHistory();
        restoreBringsEveryPart();
        loadEmptiesBothSlots();
        undoDoesNotRefill();
        noOtherCallEmptiesSlots();
        snapshotsAreNoState();
        smallestAndLargestSystems();
        lastCall();
        Script.end();
    }

    private static void nothingSaved() {
        String sentence = "ILLEGAL_STATE if none was saved";
        Script.of(sentence).unchanged("undo() = -2; undoDepth() = 0").due("undo() = -2; undo() = -2; setStrategy(1) = 0; "
            + "undo() = 0").unchanged("undo() = -2; undoDepth() = 0").due("setStrategy(0) = -2; undoDepth() = 0; "
            + "setStrategy(1) = 0; undoDepth() = 1");
        Script.of(sentence + ", text alone").text("or1;").unchanged("undo() = -2").due("load() = 1; undo() = 0; undo() = -2");
    }

    private static void everySavingCall() {
        String sentence = "Every successful call of .. saves the state that preceded it";
        Script.of(sentence).due("load() = 0; undoDepth() = 1; undo() = 0; undoDepth() = 0");
        String[] calls = {
            "remove(0) = 2", "setHard(0, 1) = 2", "setWeight(0, 9) = 2", "setStrategy(1) = 0", "step() = 2", "finish() = 3",
            "load() = 0",
        };
        for (String call : calls) {
            Script.loaded(sentence + " " + call, PAIR, 3).due(call + "; undoDepth() = 2; undo() = 1; undoDepth() = 1; "
                + "constraintCount() = 3; softConstraints() = 7; weight(0) = 2; weight(1) = 3; weight(2) = 4; musCount() = 0; "
                + "mssCount() = 0; unexploredCount() = 8; seed() = 7; setStrategy(0) = -2; violated(0) = 5; violated(1) = 6; "
                + "violated(2) = 1; undo() = 0; constraintCount() = 0; undo() = -2");
        }
    }

    private static void noOtherCallSaves() {
        Script.loaded("no other call saves a state", PAIR, 3).due("undoDepth() = 1; append(32) = 1; clearText() = 1; "
            + "save(0) = 3; save(1) = 3; seed() = 7; unexploredCount() = 8; musCount() = 0; mus(0) = -9; mssCount() = 0; "
            + "mss(0) = -9; weight(0) = 2; violated(0) = 5; modelCount(0) = 64; firstModel(0) = 0; grown(0) = 5; shrunk(7) = 3; "
            + "critical(7) = 3; smallestHittingSet() = 0; cheapestHittingSet() = 0; heaviestSatisfiable() = 6; blame(0) = 0; "
            + "constraintCount() = 3; softConstraints() = 7; undoDepth() = 1; undo() = 0; undoDepth() = 0; restore(0) = 3; "
            + "undoDepth() = 0; undo() = -2");
    }

    /** Weight 1 is the state of the load; each further weight saves one more. */
    private static Script weighted(String sentence, int upTo) {
        Script script = Script.loaded(sentence, "or1;", 1);
        for (int weight = 2; weight <= upTo; weight++) {
            script.due("setWeight(0, " + weight + ") = " + (weight - 1) + "; undoDepth() = " + Math.min(weight, 5));
        }
        return script;
    }

    private static void lessThanFive() {
        weighted("four states are saved", 4).due("undoDepth() = 4; undo() = 3; weight(0) = 3; undo() = 2; weight(0) = 2; "
            + "undo() = 1; weight(0) = 1; undo() = 0; constraintCount() = 0").unchanged("undo() = -2");
    }

    private static void exactlyFive() {
        weighted("At most 5 states are saved", 5).due("undoDepth() = 5; undo() = 4; weight(0) = 4; undo() = 3; weight(0) = 3; "
            + "undo() = 2; weight(0) = 2; undo() = 1; weight(0) = 1; undo() = 0; constraintCount() = 0; undoDepth() = 0")
            .unchanged("undo() = -2");
    }

    private static void aSixth() {
        weighted("when a sixth is saved, the oldest one is discarded", 6).due("undoDepth() = 5; undo() = 4; weight(0) = 5; "
            + "undo() = 3; weight(0) = 4; undo() = 2; weight(0) = 3; undo() = 1; weight(0) = 2; undo() = 0; weight(0) = 1; "
            + "constraintCount() = 1; undoDepth() = 0").unchanged("undo() = -2").due("weight(0) = 1");
    }

    private static void farMoreThanFive() {
        weighted("a seventh and more", 9).due("undo() = 4; weight(0) = 8; undo() = 3; weight(0) = 7; undo() = 2; weight(0) = 6; "
            + "undo() = 1; weight(0) = 5; undo() = 0; weight(0) = 4").unchanged("undo() = -2");
        Script script = Script.of("many states");
        for (int i = 0; i < 41; i++) {
            script.due("setStrategy(" + (1 - i % 2) + ") = " + i % 2 + "; undoDepth() = " + Math.min(i + 1, 5));
        }
        script.due("undo() = 4; setStrategy(0) = -2; undo() = 3; setStrategy(1) = -2; undo() = 2; setStrategy(0) = -2; "
            + "undo() = 1; setStrategy(1) = -2; undo() = 0; setStrategy(0) = -2; undo() = -2");
    }

    /** Goes back and forth over the place where a history of five slots begins anew. */
    private static void wrapAround() {
        for (int back = 1; back <= 5; back++) {
            for (int before = 5; before <= 9; before++) {
                Script script = weighted("a state that was undone makes room", before);
                for (int i = 1; i <= back; i++) {
                    script.due("undo() = " + (5 - i) + "; weight(0) = " + (before - i > 0 ? before - i : -1));
                }
                if (before - back > 0) {
                    int at = before - back;
                    script.due("setStrategy(1) = 0; undoDepth() = " + (6 - back) + "; setStrategy(0) = 1; undo() = "
                        + Math.min(6 - back, 4) + "; setStrategy(1) = -2; weight(0) = " + at);
                    for (int left = Math.min(6 - back, 4) - 1; left >= 0; left--) {
                        script.due("undo() = " + left + "; setStrategy(0) = -2");
                    }
                    // Behind one undo() the second change is a sixth state again and discards one more.
                    int oldest = before - 5 + (back == 1 ? 1 : 0);
                    script.due("undo() = -2; weight(0) = " + (oldest == 0 ? -1 : oldest));
                }
            }
        }
    }

    private static void everyPartOfTheState() {
        String sentence = "The state consists of the constraints (with weights and hard flags), the strategy and both lists.";
        Script.loaded(sentence, "or1w2;hard or3;or-1w3;", 3)
            .due("setStrategy(1) = 0; step() = 1; step() = 1; mss(0) = 1; mss(1) = 4; setHard(1, 0) = 3; undo() = 4; "
            + "weight(1) = 0; mssCount() = 2; mss(0) = 1; mss(1) = 4; setStrategy(1) = -2; unexploredCount() = 1; seed() = 5; "
            + "remove(0) = 2; undo() = 4; weight(0) = 2; weight(1) = 0; weight(2) = 3; violated(0) = 3; violated(5) = 4; "
            + "mssCount() = 2; step() = 2; mus(0) = 5; undo() = 4; musCount() = 0; mus(0) = -9; unexploredCount() = 1; "
            + "undo() = 3; mssCount() = 1; mss(1) = -9; unexploredCount() = 2; seed() = 4; undo() = 2; mssCount() = 0; "
            + "setStrategy(1) = -2; undo() = 1; setStrategy(0) = -2; constraintCount() = 3; undo() = 0; constraintCount() = 0");
    }

    /** Other sets have taken the places in the lists before the old ones come back. */
    private static void whatTheListsHeld() {
        String cross = "or1;or-1;or1;or-1;";
        Script.loaded("both lists come back: MUSes", cross, 4).due("step() = 2; mus(0) = 12; save(0) = 4; setHard(3, 1) = 3; "
            + "step() = 2; mus(0) = 4; save(1) = 4; undo() = 3; musCount() = 0; undo() = 2; mus(0) = 12; restore(1) = 4; "
            + "mus(0) = 4; restore(0) = 4; mus(0) = 12; step() = 2; mus(1) = 6; undo() = 0; mus(1) = -9; mus(0) = 12");
        Script.loaded("both lists come back: MSSes", cross, 4).due("setStrategy(1) = 0; step() = 1; mss(0) = 5; save(1) = 4; "
            + "setHard(3, 1) = 3; step() = 1; mss(0) = 2; save(0) = 4; undo() = 4; mssCount() = 0; undo() = 3; mss(0) = 5; "
            + "restore(0) = 4; mss(0) = 2; restore(1) = 4; mss(0) = 5; step() = 1; mss(1) = 10; undo() = 0; mss(1) = -9");
    }

    private static void finishWithAFullHistory() {
        weighted("finish() saves one state", 6).due("finish() = 1; undoDepth() = 5; undo() = 4; mssCount() = 0; weight(0) = 6; "
            + "undo() = 3; weight(0) = 5; undo() = 2; undo() = 1; undo() = 0; weight(0) = 2; undo() = -2");
        Script.loaded("a single undo() takes many steps back", "or1;or-1;or2;or-2;or3;or-3;or4;or-4;or5;or-5;", 10)
            .due("finish() = 37; undoDepth() = 2; undo() = 1; musCount() = 0; mssCount() = 0; unexploredCount() = 1024; "
            + "undo() = 0; undo() = -2");
    }

    private static void textIsNoState() {
        Script.loaded("The input text is not part of the state: undo", PAIR, 3).text("or1").due("setWeight(0, 9) = 2; "
            + "append(59) = 4; undo() = 1; append(32) = 5; undo() = 0; load() = 1; constraintCount() = 1; clearText() = 0; "
            + "undo() = 0; clearText() = 0");
        Script.loaded("The input text is not part of the state: restore", PAIR, 3).due("save(0) = 3").text("or1")
            .due("restore(0) = 3; append(59) = 4; load() = 1; undo() = 0; constraintCount() = 3; clearText() = 0");
        Script.loaded("save takes no text", PAIR, 3).text("or1;").due("save(0) = 3; clearText() = 4; restore(0) = 3; "
            + "clearText() = 0");
    }

    private static void slotNumbers() {
        Script.loaded("INVALID_ARGUMENT if slot is neither 0 nor 1", PAIR, 3).invalid("save", -1, 2, 3, -2, 256, LEAST, GREATEST)
            .invalid("restore", -1, 2, 3, -2, 256, LEAST, GREATEST)
            .due("save(0) = 3; step() = 2; save(1) = 3").invalid("save", -1, 2, LEAST, GREATEST)
            .invalid("restore", -1, 2, LEAST, GREATEST).due("restore(0) = 3; musCount() = 0; restore(1) = 3; musCount() = 1");
    }

    private static void emptySlots() {
        String sentence = "ILLEGAL_STATE if the slot is empty";
        Script.of(sentence).unchanged("restore(0) = -2; restore(1) = -2").due("save(1) = 0").unchanged("restore(0) = -2")
            .due("restore(1) = 0; save(0) = 0; restore(0) = 0");
        Script.loaded(sentence, PAIR, 3).due("step() = 2; save(0) = 3").unchanged("restore(1) = -2").due("undoDepth() = 2; "
            + "musCount() = 1; restore(0) = 3").unchanged("restore(1) = -2");
    }

    private static void slotIsKept() {
        Script.loaded("Replaces the state by a copy of the one in a snapshot slot, which is kept.", PAIR, 3).due("step() = 2; "
            + "save(0) = 3; step() = 1; restore(0) = 3; musCount() = 1; mssCount() = 0; finish() = 2; setWeight(0, 9) = 2; "
            + "setStrategy(1) = 0; restore(0) = 3; musCount() = 1; mssCount() = 0; weight(0) = 2; setStrategy(0) = -2; "
            + "remove(0) = 2; setHard(0, 1) = 1; restore(0) = 3; softConstraints() = 7; musCount() = 1; mus(0) = 3; "
            + "unexploredCount() = 6; step() = 1; undo() = 0; step() = 1; restore(0) = 3; mssCount() = 0; unexploredCount() = 6");
    }

    private static void slotIsACopy() {
        Script.loaded("Copies the state into a snapshot slot.", PAIR, 3).due("save(0) = 3; setWeight(0, 9) = 2; step() = 2; "
            + "undoDepth() = 3; restore(0) = 3; weight(0) = 2; musCount() = 0; undoDepth() = 0; setWeight(1, 9) = 3; undo() = 0; "
            + "weight(1) = 3; restore(0) = 3; weight(1) = 3");
        Script.loaded("save changes nothing but the slot", PAIR, 3).due("setStrategy(1) = 0; step() = 1; save(0) = 3; "
            + "undoDepth() = 3; mssCount() = 1; setStrategy(1) = -2; seed() = 2; undo() = 2; mssCount() = 0");
    }

    private static void slotIsOverwritten() {
        Script.loaded("a slot that is saved again", PAIR, 3).due("save(0) = 3; save(1) = 3; setWeight(0, 8) = 2; save(0) = 3; "
            + "setWeight(0, 9) = 8; restore(0) = 3; weight(0) = 8; restore(1) = 3; weight(0) = 2; remove(0) = 2; save(1) = 2; "
            + "restore(0) = 3; restore(1) = 2; weight(0) = 3").unchanged("save(1) = 2");
    }

    private static void twoSlots() {
        Script.loaded("There are two snapshot slots, 0 and 1.", PAIR, 3).due("save(0) = 3; step() = 2; save(1) = 3; step() = 1; "
            + "restore(0) = 3; musCount() = 0; restore(1) = 3; musCount() = 1; mssCount() = 0; restore(0) = 3; musCount() = 0; "
            + "unexploredCount() = 8; restore(1) = 3; unexploredCount() = 6");
    }

    private static void restoreDiscardsTheHistory() {
        String sentence = "All states saved for undo() are discarded.";
        Script.loaded(sentence + " (one)", PAIR, 3).due("save(0) = 3; undoDepth() = 1; restore(0) = 3; undoDepth() = 0")
            .unchanged("undo() = -2").due("constraintCount() = 3; step() = 2; undoDepth() = 1; undo() = 0; musCount() = 0; "
            + "undo() = -2");
        weighted(sentence + " (five)", 7).due("save(1) = 1; undoDepth() = 5; restore(1) = 1; undoDepth() = 0; undo() = -2; "
            + "weight(0) = 7; setWeight(0, 6) = 7; setWeight(0, 5) = 6; undoDepth() = 2; undo() = 1; weight(0) = 6; undo() = 0; "
            + "weight(0) = 7; undo() = -2");
        Script.of(sentence + " (none)").due("save(0) = 0; restore(0) = 0; undoDepth() = 0; undo() = -2");
        weighted("a restore of the present state", 3).due("save(0) = 1; restore(0) = 1; undoDepth() = 0; weight(0) = 3")
            .unchanged("restore(0) = 1");
        Script.loaded("a refused restore discards nothing", PAIR, 3).due("step() = 2").unchanged("restore(0) = -2; "
            + "restore(1) = -2; restore(2) = -1").due("undo() = 1; undo() = 0");
    }

    private static void restoreBringsEveryPart() {
        Script.loaded("the state in the slot: constraints, weights, hard flags, strategy, lists", "or1w2;hard or3;or-1w3;", 3)
            .due("setStrategy(1) = 0; step() = 1; save(0) = 3; setStrategy(0) = 1; finish() = 2; setHard(1, 0) = 3; "
            + "remove(2) = 2; setWeight(0, 9) = 2; save(1) = 2; restore(0) = 3; weight(0) = 2; weight(1) = 0; weight(2) = 3; "
            + "setStrategy(1) = -2; mssCount() = 1; mss(0) = 1; musCount() = 0; unexploredCount() = 2; seed() = 4; "
            + "violated(0) = 3; undo() = -2; restore(1) = 2; weight(0) = 9; weight(1) = 1; weight(2) = -1; setStrategy(0) = -2; "
            + "mssCount() = 0; unexploredCount() = 4; seed() = 3; violated(1) = 2");
    }

    private static void loadEmptiesBothSlots() {
        String sentence = "Successful calls of load() empty both slots";
        Script.loaded(sentence, PAIR, 3).due("save(0) = 3; save(1) = 3; load() = 0").unchanged("restore(0) = -2; restore(1) = -2")
            .due("save(0) = 0; restore(0) = 0; restore(1) = -2");
        Script.loaded(sentence + " (slot 1 alone)", PAIR, 3).due("save(1) = 3").load(PAIR, 3).due("restore(1) = -2; "
            + "restore(0) = -2; save(1) = 3; restore(1) = 3; restore(0) = -2");
        Script.loaded("a failed load empties no slot", PAIR, 3).due("save(0) = 3; step() = 2; save(1) = 3").text(";")
            .unchanged("load() = -10").due("restore(0) = 3; musCount() = 0; restore(1) = 3; musCount() = 1");
    }

    private static void undoDoesNotRefill() {
        Script.loaded("undo() does not refill them", PAIR, 3).due("save(0) = 3; save(1) = 3; load() = 0; undo() = 1; "
            + "constraintCount() = 3").unchanged("restore(0) = -2; restore(1) = -2").due("undo() = 0; restore(0) = -2; "
            + "restore(1) = -2; save(1) = 0; restore(1) = 0; restore(0) = -2");
    }

    private static void noOtherCallEmptiesSlots() {
        Script script = Script.loaded("no other call empties or changes a slot", PAIR, 3).due("save(0) = 3; setWeight(0, 9) = 2; "
            + "save(1) = 3");
        script.due("step() = 2; finish() = 2; setStrategy(1) = 0; setWeight(1, 1) = 3; setHard(0, 1) = 2; remove(0) = 2; "
            + "undo() = 4; undo() = 3; append(32) = 1; clearText() = 1; remove(0) = 2; remove(0) = 1; remove(0) = 0");
        script.due("constraintCount() = 0; restore(1) = 3; weight(0) = 9; weight(1) = 3; softConstraints() = 7; restore(0) = 3; "
            + "weight(0) = 2; unexploredCount() = 8");
    }

    private static void snapshotsAreNoState() {
        Script.loaded("The undo history and the snapshots are not part of the state.", PAIR, 3).due("setWeight(0, 8) = 2; "
            + "save(0) = 3; undo() = 1; weight(0) = 2; restore(0) = 3; weight(0) = 8; save(1) = 3; setWeight(0, 7) = 8; "
            + "save(0) = 3; restore(1) = 3; weight(0) = 8; restore(0) = 3; weight(0) = 7; undoDepth() = 0");
        Script.loaded("a slot saved before an undo stays", PAIR, 3).due("save(0) = 3; undo() = 0; constraintCount() = 0; "
            + "restore(0) = 3; constraintCount() = 3");
    }

    private static void smallestAndLargestSystems() {
        Script.of("Returns the number of constraints: none").due("save(0) = 0; save(1) = 0; restore(0) = 0; restore(1) = 0; "
            + "constraintCount() = 0");
        Script.loaded("Returns the number of constraints: ten", "or1w9;".repeat(10), 10).due("save(0) = 10; finish() = 1; "
            + "remove(9) = 9; save(1) = 9; restore(0) = 10; weight(9) = 9; softConstraints() = 1023; unexploredCount() = 1024; "
            + "restore(1) = 9; weight(9) = -1; softConstraints() = 511; setHard(0, 1) = 8; save(1) = 9; restore(1) = 9; "
            + "softConstraints() = 510");
    }

    private static void lastCall() {
        Script saving = Script.of("An object is used for at most 512 calls (every call makes a snapshot or empties it)");
        for (int i = 0; i < 128; i++) {
            saving.due("save(0) = 0; save(1) = 0; load() = 0; undoDepth() = " + Math.min(i + 1, 5));
        }
        Script changing = Script.of("An object is used for at most 512 calls (every call saves a state)");
        for (int i = 0; i < 510; i++) {
            changing.due("setStrategy(" + (1 - i % 2) + ") = " + i % 2);
        }
        changing.due("undoDepth() = 5; undo() = 4");
    }
}
