/**
 * Assignments, the kinds of constraints, indices, weights, hard flags and selections at every limit
 * that the document names. A test's name is the sentence that it tests, or what the sentence is about.
 */
public final class SystemBoundaryTest {
    private static final int LEAST = Integer.MIN_VALUE;
    private static final int GREATEST = Integer.MAX_VALUE;
    private static final String TEN = "or1;".repeat(10);
    private static final String[] ON_SELECTIONS = {"modelCount", "firstModel", "grown", "shrunk", "critical"};
    private static final String[] ON_CONSTRAINTS = {"remove", "weight", "blame"};

    public static void main(String[] args) {
        newObject();
        assignments();
        orConstraint();
        xorConstraint();
        mostConstraint();
        hardAndSoftAreViolated();
        noSuchConstraint();
        removeOneByOne();
        removeFromTheMiddle();
        setHardArguments();
        setHardAlreadyAsRequested();
        hardBecomesSoft();
        allHardAndAllSoft();
        setWeightArguments();
        setWeightRefused();
        setStrategyArguments();
        selectionsWithoutConstraints();
        selectionsOfTen();
        selectionsAndHardConstraints();
        selectionsAfterRemove();
        invalidBeforeUnsatisfiable();
        modelCountExtremes();
        firstModelExtremes();
        heaviestExtremes();
        heaviestAtOneAssignment();
        heaviestTies();
        Script.end();
    }

    private static void newObject() {
        Script.of("Creates an object with an empty text, no constraints and strategy 0.").unchanged("clearText() = 0; "
            + "constraintCount() = 0; softConstraints() = 0; setStrategy(0) = -2; undoDepth() = 0; undo() = -2; musCount() = 0; "
            + "mssCount() = 0; mus(0) = -9; mss(0) = -9; seed() = 0; unexploredCount() = 1; restore(0) = -2; restore(1) = -2; "
            + "weight(0) = -1; blame(0) = -1; remove(0) = -1; setHard(0, 1) = -1; setHard(0, 0) = -1; setWeight(0, 1) = -1; "
            + "violated(0) = 0; violated(63) = 0; modelCount(0) = 64; firstModel(0) = 0; grown(0) = 0; shrunk(0) = -2; "
            + "critical(0) = -2; smallestHittingSet() = 0; cheapestHittingSet() = 0; heaviestSatisfiable() = 0");
    }

    private static void assignments() {
        String sentence = "An assignment is a number from 0 to 63: variable v is true if bit v - 1 of the number is 1.";
        Script script = Script.loaded(sentence, "or1;or2;or3;or4;or5;or6;", 6).invalid("violated", -1, 64, -64, 65, 128, LEAST, GREATEST);
        for (int assignment = 0; assignment <= 63; assignment++) {
            script.due("violated(" + assignment + ") = " + (63 - assignment));
        }
        for (int variable = 1; variable <= 6; variable++) {
            int bit = 1 << variable - 1;
            script.due("firstModel(" + bit + ") = " + bit + "; modelCount(" + bit + ") = 32");
        }
        Script.of(sentence + " (no constraints)").invalid("violated", -1, 64).due("violated(0) = 0; violated(63) = 0");
    }

    private static void orConstraint() {
        String sentence = "an \"or\" constraint holds if at least one of its literals is true";
        for (int count = 1; count <= 6; count++) {
            int all = (1 << count) - 1;
            Script positive = Script.loaded(sentence, "or" + "123456".substring(0, count) + ";", 1);
            positive.due("violated(0) = 1; violated(" + all + ") = 0; violated(" + (63 - all) + ") = 1; modelCount(1) = "
                + (64 - (64 >> count)));
            Script negative = Script.loaded(sentence, "or" + "-1-2-3-4-5-6".substring(0, 2 * count) + ";", 1);
            negative.due("violated(0) = 0; violated(" + all + ") = 1; violated(63) = 1; modelCount(1) = " + (64 - (64 >> count)));
            for (int only = 0; only < count; only++) {
                positive.due("violated(" + (1 << only) + ") = 0");
                negative.due("violated(" + (all - (1 << only)) + ") = 0");
            }
        }
    }

    private static void xorConstraint() {
        String sentence = "an \"xor\" constraint holds if an odd number of its literals are true";
        for (int count = 1; count <= 6; count++) {
            Script positive = Script.loaded(sentence, "xor" + "123456".substring(0, count) + ";", 1);
            Script firstNegated = Script.loaded(sentence, "xor-" + "123456".substring(0, count) + ";", 1);
            Script allNegated = Script.loaded(sentence, "xor" + "-1-2-3-4-5-6".substring(0, 2 * count) + ";", 1);
            for (int trueOnes = 0; trueOnes <= count; trueOnes++) {
                String call = "violated(" + ((1 << trueOnes) - 1) + ") = ";
                positive.due(call + (trueOnes % 2 == 1 ? 0 : 1));
                firstNegated.due(call + (trueOnes % 2 == 1 ? 1 : 0));
                allNegated.due(call + ((count - trueOnes) % 2 == 1 ? 0 : 1));
            }
            positive.due("modelCount(1) = 32");
        }
    }

    private static void mostConstraint() {
        String sentence = "an \"at most\" constraint with bound k (0 to 6) holds if at most k of its literals are true";
        for (int bound = 0; bound <= 6; bound++) {
            for (int count = 1; count <= 6; count++) {
                Script positive = Script.loaded(sentence, "most" + bound + "123456".substring(0, count) + ";", 1);
                Script negative = Script.loaded(sentence, "most" + bound + "-1-2-3-4-5-6".substring(0, 2 * count) + ";", 1);
                for (int trueOnes = 0; trueOnes <= count; trueOnes++) {
                    String call = "violated(" + ((1 << trueOnes) - 1) + ") = ";
                    positive.due(call + (trueOnes <= bound ? 0 : 1));
                    negative.due(call + (count - trueOnes <= bound ? 0 : 1));
                }
                if (bound >= count) {
                    positive.due("modelCount(1) = 64");
                    negative.due("modelCount(1) = 64");
                }
            }
        }
    }

    private static void hardAndSoftAreViolated() {
        Script.loaded("Returns the constraints, hard and soft, that an assignment does not satisfy.", "hard or1;or1;hard or-1;or-1;", 4)
            .due("violated(0) = 3; violated(1) = 12; setHard(1, 1) = 1; violated(0) = 3; setHard(0, 0) = 2; violated(0) = 3; "
            + "violated(63) = 12");
        Script.loaded("the first and the last of ten are violated", "or1;or2;or2;or2;or2;or2;or2;or2;or2;or1;", 10)
            .due("violated(0) = 1023; violated(1) = 510; violated(2) = 513; violated(3) = 0");
    }

    private static void noSuchConstraint() {
        String sentence = "INVALID_ARGUMENT if there is no such constraint";
        for (int count : new int[] {0, 1, 2, 9, 10}) {
            for (String method : ON_CONSTRAINTS) {
                Script.loaded(sentence + ": " + method + " of " + count, "or1;".repeat(count), count)
                    .invalid(method, -1, count, count + 1, 10, 11, 31, 32, 64, LEAST, GREATEST);
            }
            for (int index : new int[] {-1, count, count + 1, 10, 32, LEAST, GREATEST}) {
                Script.loaded(sentence + ": setHard and setWeight of " + count, "or1;".repeat(count), count).unchanged("setHard("
                    + index + ", 1) = -1; setHard(" + index + ", 0) = -1; setHard(" + index + ", 2) = -1; setWeight(" + index
                    + ", 1) = -1; setWeight(" + index + ", 9) = -1; setWeight(" + index + ", 0) = -1");
            }
            if (count > 0) {
                int last = count - 1;
                Script.loaded("there is such a constraint", "or1;".repeat(count), count).due("weight(0) = 1; weight(" + last
                    + ") = 1; blame(0) = 0; blame(" + last + ") = 0; setWeight(" + last + ", 9) = 1; setHard(" + last + ", 1) = "
                    + last + "; remove(" + last + ") = " + last);
            }
        }
    }

    private static void removeOneByOne() {
        Script fromTheEnd = Script.loaded("Returns the number of constraints left: the last", TEN, 10);
        Script fromTheFront = Script.loaded("Returns the number of constraints left: the first", TEN, 10);
        for (int left = 9; left >= 0; left--) {
            int soft = (1 << left) - 1;
            fromTheEnd.due("remove(" + left + ") = " + left + "; constraintCount() = " + left + "; softConstraints() = " + soft
                + "; remove(" + left + ") = -1");
            fromTheFront.due("remove(0) = " + left + "; constraintCount() = " + left + "; softConstraints() = " + soft + "; "
                + "unexploredCount() = " + (soft + 1));
        }
        fromTheEnd.invalid("remove", 0, -1).due("undoDepth() = 5");
        fromTheFront.invalid("remove", 0, -1).due("undo() = 4; constraintCount() = 1");
    }

    private static void removeFromTheMiddle() {
        String sentence = "The constraints with greater indices move down by one.";
        String system = "or1w1;hard or2;or3w3;or4w4;hard or5;or6w6;";
        Script.loaded(sentence, system, 6).due("remove(2) = 5; weight(0) = 1; weight(1) = 0; weight(2) = 4; weight(3) = 0; "
            + "weight(4) = 6; weight(5) = -1; softConstraints() = 21; violated(0) = 31; violated(4) = 31; violated(8) = 27; "
            + "violated(32) = 15; violated(1) = 30");
        Script.loaded(sentence + " (the first)", system, 6).due("remove(0) = 5; weight(0) = 0; weight(4) = 6; "
            + "softConstraints() = 22; violated(2) = 30");
        Script.loaded(sentence + " (the last)", system, 6).due("remove(5) = 5; weight(0) = 1; weight(4) = 0; weight(5) = -1; "
            + "softConstraints() = 13; violated(32) = 31");
        Script.loaded("Both lists become empty: remove", "or1;or-1;or2;", 3).due("setStrategy(1) = 0; finish() = 3; "
            + "remove(2) = 2; musCount() = 0; mssCount() = 0; mus(0) = -9; mss(0) = -9; unexploredCount() = 4; seed() = 0; "
            + "setStrategy(1) = -2; smallestHittingSet() = 0; blame(0) = 0");
    }

    private static void setHardArguments() {
        String sentence = "INVALID_ARGUMENT if hard is neither 0 nor 1";
        for (int hard : new int[] {-1, 2, -2, 3, 256, LEAST, GREATEST}) {
            Script.loaded(sentence, "or1;hard or2;", 2).due("finish() = 1").unchanged("setHard(0, " + hard + ") = -1; setHard(1, "
                + hard + ") = -1; setHard(2, " + hard + ") = -1; setHard(-1, " + hard + ") = -1");
        }
        Script.loaded("1 for hard, 0 for soft", "or1;hard or2;", 2).due("setHard(0, 1) = 0; softConstraints() = 0; "
            + "setHard(1, 0) = 1; softConstraints() = 2; setHard(0, 0) = 2; softConstraints() = 3; undoDepth() = 4");
    }

    private static void setHardAlreadyAsRequested() {
        Script.loaded("ILLEGAL_STATE if the constraint already is as requested", "or1w5;hard or2;or-1;", 3).due("step() = 2; "
            + "save(0) = 3").unchanged("setHard(0, 0) = -2; setHard(1, 1) = -2; setHard(2, 0) = -2").due("musCount() = 1; "
            + "undoDepth() = 2; weight(0) = 5; setHard(0, 1) = 1").unchanged("setHard(0, 1) = -2").due("setHard(0, 0) = 2")
            .unchanged("setHard(0, 0) = -2").due("weight(0) = 1");
    }

    private static void hardBecomesSoft() {
        String sentence = "A hard constraint that becomes soft has weight 1. Both lists become empty.";
        Script.loaded(sentence, "or1w9;hard or2;or-1w4;", 3).due("step() = 2; step() = 1; setHard(1, 0) = 3; weight(1) = 1; "
            + "weight(0) = 9; weight(2) = 4; musCount() = 0; mssCount() = 0; mus(0) = -9; mss(0) = -9; unexploredCount() = 8; "
            + "seed() = 7; finish() = 3; setHard(0, 1) = 2; weight(0) = 0; musCount() = 0; mssCount() = 0; "
            + "unexploredCount() = 4; seed() = 6; setHard(0, 0) = 3; weight(0) = 1; unexploredCount() = 8; undo() = 4; "
            + "weight(0) = 0; undo() = 3; weight(0) = 9; musCount() = 1; mssCount() = 2");
        Script.loaded("setHard keeps the strategy", "or1;", 1).due("setStrategy(1) = 0; setHard(0, 1) = 0; setStrategy(1) = -2");
    }

    private static void allHardAndAllSoft() {
        Script script = Script.loaded("Returns the number of soft constraints afterwards", TEN, 10);
        for (int i = 0; i < 10; i++) {
            int soft = 1023 & -1 << i + 1;
            script.due("setHard(" + i + ", 1) = " + (9 - i) + "; softConstraints() = " + soft + "; unexploredCount() = "
                + (1 << 9 - i) + "; weight(" + i + ") = 0");
        }
        script.due("seed() = 0; modelCount(0) = 32");
        for (int i = 9; i >= 0; i--) {
            script.due("setHard(" + i + ", 0) = " + (10 - i) + "; softConstraints() = " + (1023 & -1 << i) + "; "
                + "unexploredCount() = " + (1 << 10 - i));
        }
        script.due("constraintCount() = 10; modelCount(0) = 64; seed() = 1023");
    }

    private static void setWeightArguments() {
        Script script = Script.loaded("new weight, 1 to 9", "or1w5;hard or2;", 2);
        for (int weight : new int[] {0, 10, -1, 11, 257, LEAST, GREATEST}) {
            script.unchanged("setWeight(0, " + weight + ") = -1; setWeight(1, " + weight + ") = -1; setWeight(2, " + weight
                + ") = -1");
        }
        script.due("setWeight(0, 1) = 5; weight(0) = 1; setWeight(0, 2) = 1; setWeight(0, 8) = 2; setWeight(0, 9) = 8; "
            + "weight(0) = 9; setWeight(0, 1) = 9").unchanged("setWeight(0, 0) = -1; setWeight(0, 10) = -1");
    }

    private static void setWeightRefused() {
        String sentence = "ILLEGAL_STATE if the constraint is hard, or if it already has this weight";
        Script script = Script.loaded(sentence, "or1;hard or2;or-1w9;", 3)
            .due("step() = 2");
        for (int weight = 1; weight <= 9; weight++) {
            script.unchanged("setWeight(1, " + weight + ") = -2");
        }
        script.unchanged("setWeight(0, 1) = -2; setWeight(2, 9) = -2; weight(1) = 0").due("setWeight(0, 2) = 1; undoDepth() = 3")
            .unchanged("setWeight(0, 2) = -2").due("setWeight(0, 1) = 2; musCount() = 1; setWeight(2, 8) = 9; undo() = 4; "
            + "weight(2) = 9");
        Script.loaded("If several error conditions apply: setWeight", "hard or1;or2;", 2).unchanged("setWeight(0, 0) = -1; "
            + "setWeight(0, 10) = -1; setWeight(2, 10) = -1; setWeight(0, 1) = -2");
    }

    private static void setStrategyArguments() {
        Script.of("INVALID_ARGUMENT if strategy is neither 0 nor 1").invalid("setStrategy", -1, 2, -2, 3, 256, LEAST, GREATEST)
            .unchanged("setStrategy(0) = -2").due("setStrategy(1) = 0").unchanged("setStrategy(1) = -2").invalid("setStrategy", -1, 2)
            .due("setStrategy(0) = 1").unchanged("setStrategy(0) = -2").due("undoDepth() = 2");
    }

    private static void selectionsWithoutConstraints() {
        for (String method : ON_SELECTIONS) {
            Script script = Script.of("A number is not a valid selection if it has a bit for a constraint that does not exist: "
                + method);
            script.invalid(method, -1, 1, 2, 512, 1023, 1024, LEAST, GREATEST);
        }
        Script.of("the empty selection is valid").due("modelCount(0) = 64; firstModel(0) = 0; grown(0) = 0; shrunk(0) = -2; "
            + "critical(0) = -2");
    }

    private static void selectionsOfTen() {
        for (String method : ON_SELECTIONS) {
            Script script = Script.loaded("A number is not a valid selection if it is negative: " + method, TEN, 10);
            script.invalid(method, -1, -2, -1023, -1024, LEAST, LEAST + 1);
            for (int bit = 10; bit <= 30; bit++) {
                script.invalid(method, 1 << bit, 1 << bit | 1023);
            }
            script.invalid(method, 1025, GREATEST);
        }
        Script.loaded("all ten are a selection", TEN, 10).due("modelCount(1023) = 32; firstModel(1023) = 1; grown(1023) = 1023; "
            + "shrunk(1023) = -2; critical(1023) = -2; modelCount(512) = 32; grown(512) = 1023; modelCount(0) = 64; "
            + "grown(0) = 1023");
    }

    private static void selectionsAndHardConstraints() {
        String sentence = "A number is not a valid selection if it has a bit for a hard constraint";
        for (int hard = 0; hard <= 9; hard++) {
            int bit = 1 << hard;
            Script script = Script.loaded(sentence, TEN, 10).due("modelCount(" + bit + ") = 32; setHard(" + hard + ", 1) = 9");
            for (String method : ON_SELECTIONS) {
                script.due(method + "(" + bit + ") = -1; " + method + "(1023) = -1; " + method + "(" + (bit | 1) + ") = -1");
            }
            script.due("modelCount(" + (1023 - bit) + ") = 32; grown(0) = " + (1023 - bit) + "; shrunk(0) = -2; setHard(" + hard
                + ", 0) = 10; modelCount(1023) = 32; grown(" + bit + ") = 1023");
        }
        Script.loaded(sentence + " (nothing changes)", "or1;hard or-1;or2;", 3).due("step() = 2").invalid("modelCount", 2, 3, 6, 7)
            .invalid("firstModel", 2, 3, 6, 7).invalid("grown", 2, 3, 6, 7).invalid("shrunk", 2, 3, 6, 7).invalid("critical", 2, 3, 6, 7);
    }

    private static void selectionsAfterRemove() {
        Script.loaded("a selection of what was removed", TEN, 10).due("modelCount(512) = 32; remove(0) = 9; "
            + "modelCount(512) = -1; firstModel(512) = -1; grown(512) = -1; shrunk(512) = -1; critical(512) = -1; "
            + "modelCount(511) = 32; undo() = 1; modelCount(512) = 32");
        Script.loaded("a selection of what was loaded before", "or1;or2;", 2).load("or1;", 1).due("modelCount(2) = -1; "
            + "modelCount(1) = 32; undo() = 1; modelCount(2) = 32");
    }

    private static void invalidBeforeUnsatisfiable() {
        Script.loaded("If several error conditions apply: selections", "or1;or-1;hard or2;", 3).unchanged("firstModel(7) = -1; "
            + "firstModel(3) = -9; grown(7) = -1; grown(3) = -2; shrunk(5) = -1; shrunk(1) = -2; critical(5) = -1; "
            + "critical(1) = -2; shrunk(8) = -1; critical(8) = -1; grown(11) = -1; firstModel(11) = -1");
    }

    private static void modelCountExtremes() {
        Script.loaded("the number of such assignments, 0 to 64", "most6 1;most5 1 2 3 4 5 6;most0 1 2 3 4 5 6;or1;hard most6 6;", 5)
            .due("modelCount(0) = 64; modelCount(1) = 64; modelCount(2) = 63; modelCount(4) = 1; modelCount(12) = 0; "
            + "modelCount(6) = 1; modelCount(8) = 32; modelCount(10) = 31; setHard(2, 1) = 3; modelCount(0) = 1; "
            + "modelCount(8) = 0; modelCount(3) = 1");
    }

    private static void firstModelExtremes() {
        Script.loaded("the smallest assignment; NONE if it is unsatisfiable", "most0 1 2 3 4 5 6;most0-1-2-3-4-5-6;or6;or-6;or1 2;", 5)
            .due("firstModel(0) = 0; firstModel(1) = 0; firstModel(2) = 63; firstModel(3) = -9; firstModel(4) = 32; "
            + "firstModel(8) = 0; firstModel(16) = 1; firstModel(20) = 33; firstModel(12) = -9; firstModel(6) = 63; "
            + "firstModel(10) = -9; setHard(1, 1) = 4; firstModel(0) = 63; firstModel(8) = -9");
    }

    private static void heaviestExtremes() {
        String none = "NONE if the hard constraints alone cannot be satisfied";
        Script.loaded(none, "hard or1;hard or-1;", 2).unchanged("heaviestSatisfiable() = -9").due("remove(0) = 1; "
            + "heaviestSatisfiable() = 0");
        Script.loaded(none, "hard or1;or-1;or2;", 3).due("heaviestSatisfiable() = 4; setHard(1, 1) = 1; "
            + "heaviestSatisfiable() = -9; setHard(0, 0) = 2; heaviestSatisfiable() = 4");
        Script.loaded("no soft constraint can be satisfied", "hard or1;or-1w9;most0 1w9;", 3).due("heaviestSatisfiable() = 0");
        Script.loaded("all soft constraints can be satisfied", "or1w9;".repeat(10), 10).due("heaviestSatisfiable() = 1023");
        Script.loaded("whether or not it has been explored", "or1;or-1w2;", 2).unchanged("heaviestSatisfiable() = 2")
            .due("step() = 2; heaviestSatisfiable() = 2; step() = 1; mss(0) = 1; heaviestSatisfiable() = 2; finish() = 1; "
            + "heaviestSatisfiable() = 2; setWeight(0, 3) = 1; heaviestSatisfiable() = 1");
    }

    private static void heaviestAtOneAssignment() {
        Script.loaded("assignment 0 alone satisfies the hard constraints", "hard most0 1 2 3 4 5 6;or-1w2;or6w9;", 3)
            .due("heaviestSatisfiable() = 2; firstModel(2) = 0; modelCount(0) = 1");
        Script.loaded("assignment 63 alone satisfies the hard constraints", "hard most0-1-2-3-4-5-6;or-1w9;or6w2;", 3)
            .due("heaviestSatisfiable() = 4; firstModel(4) = 63; modelCount(0) = 1");
    }

    private static void heaviestTies() {
        String sentence = "the satisfiable selection with the greatest total weight; among several the one with the "
            + "smallest number";
        Script.loaded(sentence, "or1;or-1;", 2).due("heaviestSatisfiable() = 1; setWeight(1, 2) = 1; heaviestSatisfiable() = 2; "
            + "setWeight(0, 2) = 1; heaviestSatisfiable() = 1; setWeight(0, 1) = 2; heaviestSatisfiable() = 2");
        Script.loaded(sentence, "or-1;or1;", 2).due("heaviestSatisfiable() = 1; setWeight(1, 2) = 1; heaviestSatisfiable() = 2; "
            + "setWeight(0, 9) = 1; heaviestSatisfiable() = 1");
        // One of weight 9 against nine of weight 1, and against ten of weight 1 less one.
        Script.loaded(sentence + " (9 against 9)", "or-1w9;" + "or1;".repeat(9), 10).due("heaviestSatisfiable() = 1; "
            + "setWeight(0, 8) = 9; heaviestSatisfiable() = 1022; setWeight(0, 9) = 8; setWeight(9, 2) = 1; "
            + "heaviestSatisfiable() = 1022");
        Script.loaded(sentence + " (9 against 9, the other way round)", "or1;".repeat(9) + "or-1w9;", 10)
            .due("heaviestSatisfiable() = 511; remove(0) = 9; heaviestSatisfiable() = 256");
    }
}
