/**
 * Each promise of the document by hand-made runs of calls: ordinary inputs, the edges and wrong
 * inputs. The answers were worked out on paper from the document.
 */
public final class PromiseTest {
    /**
     * Constraints: 0 is x1 (weight 5), 1 is not x1 (weight 2), 2 is x2 (weight 1), 3 is hard: x2 implies x3,
     * 4 is not x3 (weight 4). MUSes: {0, 1} = 3 and {2, 4} = 20. MSSes: 5, 6, 17, 18.
     */
    private static final String PAIRS = "or1w5;or-1w2;or2;hard or-2 3;most0 3w4;";
    private static final String HARD_CONFLICT = "hard or1;hard or-1;or2;";
    /** Constraint 0 contradicts constraints 1 and 2; the weights of both sides are equal. */
    private static final String LOW_HUB = "or1w3;or-1w1;or-1w2;";
    /** Constraint 2 contradicts constraints 0 and 1; the weights of both sides are equal. */
    private static final String HIGH_HUB = "or-1w1;or-1w2;or1w3;";

    private static final int LEAST = Integer.MIN_VALUE;
    private static final int GREATEST = Integer.MAX_VALUE;

    public static void main(String[] args) {
        newObject();
        append();
        clearText();
        loadGrammar();
        loadErrors();
        loadEffects();
        kindsOfConstraints();
        remove();
        setHard();
        setWeight();
        setStrategy();
        step();
        finish();
        undo();
        undoLimit();
        seedAndUnexploredCount();
        lists();
        weight();
        violated();
        models();
        grownAndShrunk();
        critical();
        hittingSets();
        heaviestSatisfiable();
        blame();
        saveAndRestore();
        slotsAndLoad();
        counts();
        errorsChangeNothing();
        Script.end();
    }

    private static Script loaded(String name, String system, int count) {
        return Script.loaded(name, system, count);
    }

    private static void invalid(Script script, String method, int... arguments) {
        script.invalid(method, arguments);
    }

    private static void newObject() {
        Script.of("promise 1").due("constraintCount() = 0; softConstraints() = 0; clearText() = 0; setStrategy(0) = -2; "
            + "musCount() = 0; mssCount() = 0; undoDepth() = 0; undo() = -2; restore(0) = -2; restore(1) = -2; "
            + "seed() = 0; unexploredCount() = 1; modelCount(0) = 64; violated(0) = 0; smallestHittingSet() = 0; "
            + "cheapestHittingSet() = 0; heaviestSatisfiable() = 0; weight(0) = -1; blame(0) = -1");
    }

    private static void append() {
        Script script = Script.of("promise 2");
        invalid(script, "append", -1, 256, LEAST, GREATEST);
        script.due("append(0) = 1; append(255) = 2; append(32) = 3; clearText() = 3");
        Script full = Script.of("promise 2, full text").text(" ".repeat(120));
        full.due("append(32) = -3; append(0) = -3; append(255) = -3");
        invalid(full, "append", -1, 256, LEAST, GREATEST);
        full.due("clearText() = 120; append(59) = 1; load() = -10");
        Script.of("promise 2, no state").text("or1;").due("undoDepth() = 0; constraintCount() = 0");
    }

    private static void clearText() {
        Script script = Script.of("promise 3").text("or1;");
        script.due("clearText() = 4; clearText() = 0; load() = 0; undoDepth() = 1; append(59) = 1; clearText() = 1");
        Script.of("promise 3, nothing is left of the old text").text("orx1;").due("clearText() = 5").load("or", -12)
            .due("clearText() = 2").text("or").due("append(49) = 3; load() = -13");
        loaded("promise 3, state kept", "or1;", 1).text("or2").due("clearText() = 3; constraintCount() = 1; undoDepth() = 1");
    }

    private static void loadGrammar() {
        String[] valid = {
            "", "0", "   ", "0", "or1;", "1", "  or  1  ;  ", "1", "or1w9;", "1", "or1 w 1 ;", "1", "hard or1;", "1",
            "hard  xor-1-2;", "1", "most0 1;", "1", "most6 1;", "1", "most 61;", "1", "most6123456;", "1",
            "or123456;", "1", "or-1-2-3-4-5-6;", "1", "or 1 - 2;", "1", "or1;xor2;most13;", "3",
            "or6;hard most2 1 2 3;xor -4 5w3;", "3", "or1;".repeat(10), "10", "or1;".repeat(10) + "  ", "10",
            "or1;".repeat(9) + " ".repeat(80) + "or1;", "10",
        };
        for (int i = 0; i + 1 < valid.length; i += 2) {
            loaded("promise 4, grammar", valid[i], Integer.parseInt(valid[i + 1]))
                .due("constraintCount() = " + valid[i + 1] + "; clearText() = 0");
        }
    }

    private static void loadErrors() {
        String ten = "or1;".repeat(10);
        String[] wrong = {
            "or1w0;", "4", "or1w;", "4", "or1w", "4", "or1w12;", "5", "or1w1w1;", "5", "or1w1 2;", "6", "or1w1", "5",
            "or1w-1;", "4", "hardor1;", "0", "hard hard or1;", "5", "hard or1w2;", "8", "hard;", "4", "hard", "4",
            "hard ", "5", "hard w1;", "5", "most 1;", "6", "most7 1;", "4", "most9 1;", "4", "most-1;", "4", "most", "4",
            "mostor1;", "0", "most or1;", "5", "xor;", "3", "or 7;", "3", "or 0;", "3", "or 9;", "3", "or-0;", "3",
            "or-7;", "3", "or 1 2 1;", "7", "or 1 -1;", "6", "or-1 1;", "5", "or-1-1;", "5", "or-;", "3", "or--1;", "3",
            "or-", "3", "or", "2", "or w1;", "3", "or 1 2 3 4 5 6 -1;", "16", "or123456-", "9", "or1234567;", "8",
            "or123456-7;", "9", "or1", "3", "or1  ", "5", "or1 2", "5", "or1-", "4", "o", "0", "orx1;", "0", "oror1;", "0",
            "xor1;xor", "8", "Or1;", "0", "OR1;", "0", "or1;w", "4", "or1;w2;", "4", "or1;;", "4", ";", "0", " ;", "1",
            "or\t1;", "2", "or\n1;", "2", "or1,2;", "3", "-1;", "0", "1", "0", "or1;  or7;", "8", "or1wx;", "3",
            "or1or2;", "3", "or1 or2;", "4", "or1hard;", "3", "or" + (char) 0 + "1;", "2", "or1;" + (char) 255, "4",
            "or1;" + (char) 160, "4", "or1" + (char) 96 + ";", "3", "or1" + (char) 123 + ";", "3", "or/", "2",
            "or:", "2", "w", "0", "w1;", "0", ten + "or1;", "40", ten + " x", "41", ten + ";", "40", ten + "hard", "40",
            ten + "  1", "42", "or1" + " ".repeat(117), "120", "or7 Q", "2", "x or7", "0",
            "orz1;", "0", "ora1;", "0", "zor1;", "0", "or1w1-2;", "5", "or1w1hard;", "5", "or1;or2;hard xor3w1;", "17",
        };
        for (int i = 0; i + 1 < wrong.length; i += 2) {
            int answer = -10 - Integer.parseInt(wrong[i + 1]);
            loaded("promise 4, error position", wrong[i], answer)
                .due("constraintCount() = 0; undoDepth() = 0; clearText() = " + wrong[i].length());
        }
    }

    private static void loadEffects() {
        loaded("promise 4, success", PAIRS, 5).due("setStrategy(1) = 0; finish() = 6; save(0) = 5; save(1) = 5")
            .load("or1;or-1;", 2).due("clearText() = 0; constraintCount() = 2; softConstraints() = 3; musCount() = 0; "
            + "mssCount() = 0; mus(0) = -9; mss(0) = -9; restore(0) = -2; restore(1) = -2; setStrategy(1) = -2; "
            + "unexploredCount() = 4; undoDepth() = 4; undo() = 3; constraintCount() = 5; musCount() = 2; mssCount() = 4; "
            + "restore(0) = -2; restore(1) = -2; unexploredCount() = 0; clearText() = 0");
        loaded("promise 4, failure", PAIRS, 5).due("setStrategy(1) = 0; step() = 1; save(0) = 5").load("or1;or7;", -16)
            .due("constraintCount() = 5; softConstraints() = 23; mssCount() = 1; undoDepth() = 3; setStrategy(1) = -2; "
            + "load() = -16; restore(0) = 5; clearText() = 8");
        Script.of("promise 4, a failed text can be mended").load("or1", -13).due("append(59) = 4; load() = 1");
        loaded("promise 4, weights", "or1;or2w7;hard or3;", 3).due("weight(0) = 1; weight(1) = 7; weight(2) = 0");
    }

    private static void kindsOfConstraints() {
        loaded("or", "or 1 -3;", 1).due("violated(0) = 0; violated(1) = 0; violated(4) = 1; violated(5) = 0; "
            + "modelCount(1) = 48; violated(63) = 0");
        loaded("xor", "xor 1 2 3;", 1).due("violated(0) = 1; violated(1) = 0; violated(3) = 1; violated(7) = 0; "
            + "modelCount(1) = 32");
        loaded("negated xor", "xor -1 2;", 1).due("violated(0) = 0; violated(1) = 1; violated(2) = 1; violated(3) = 0");
        loaded("most", "most2 1 2 3;", 1).due("violated(7) = 1; violated(3) = 0; violated(0) = 0; violated(63) = 1; "
            + "modelCount(1) = 56");
        loaded("negated most", "most1 -1 -2;", 1).due("violated(0) = 1; violated(1) = 0; violated(2) = 0; violated(3) = 0");
        loaded("most 0", "most0 1;", 1).due("violated(0) = 0; violated(1) = 1");
        loaded("most 6", "most6 1 2 3 4 5 6;", 1).due("modelCount(1) = 64");
        loaded("most 5", "most5 1 2 3 4 5 6;", 1).due("modelCount(1) = 63; violated(63) = 1");
        loaded("variable 6", "or6;or-6;", 2).due("firstModel(1) = 32; violated(32) = 2; violated(31) = 1");
        loaded("no bound is left over", "most3 1 2 3;most0 4;or5;xor6;", 4).due("modelCount(2) = 32; violated(8) = 14");
    }

    private static void remove() {
        Script script = loaded("promise 5", PAIRS, 5).due("setStrategy(1) = 0; finish() = 6");
        invalid(script, "remove", -1, 5, 10, LEAST, GREATEST);
        script.due("musCount() = 2; undoDepth() = 3; remove(0) = 4; musCount() = 0; mssCount() = 0; undoDepth() = 4; "
            + "setStrategy(1) = -2; softConstraints() = 11; weight(0) = 2; weight(1) = 1; weight(2) = 0; weight(3) = 4; "
            + "weight(4) = -1; unexploredCount() = 8; violated(2) = 4; violated(63) = 9; remove(3) = 3; weight(2) = 0; "
            + "weight(3) = -1; remove(1) = 2; weight(1) = 0; remove(1) = 1; remove(0) = 0; remove(0) = -1; undo() = 4; "
            + "constraintCount() = 1");
        loaded("promise 5, last of ten", "or1;".repeat(9) + "or2w9;", 10).due("remove(9) = 9; softConstraints() = 511; "
            + "remove(9) = -1; undo() = 1; weight(9) = 9; remove(0) = 9; weight(8) = 9; violated(1) = 256");
    }

    private static void setHard() {
        Script script = loaded("promise 6", PAIRS, 5).due("setStrategy(1) = 0; finish() = 6");
        script.due("setHard(-1, 1) = -1; setHard(5, 0) = -1; setHard(0, 2) = -1; setHard(0, -1) = -1; setHard(3, 2) = -1; "
            + "setHard(5, 2) = -1; setHard(0, 0) = -2; setHard(3, 1) = -2; musCount() = 2; undoDepth() = 3; "
            + "setHard(0, 1) = 3; musCount() = 0; mssCount() = 0; weight(0) = 0; softConstraints() = 22; "
            + "unexploredCount() = 8; setStrategy(1) = -2; setHard(0, 0) = 4; weight(0) = 1; softConstraints() = 23; "
            + "setHard(3, 0) = 5; weight(3) = 1; undoDepth() = 5; undo() = 4; undo() = 3; undo() = 2; weight(0) = 5; musCount() = 2");
        loaded("promise 6, many bits", "or1;", 1).due("setHard(0, " + LEAST + ") = -1; setHard(" + GREATEST + ", 1) = -1");
    }

    private static void setWeight() {
        Script script = loaded("promise 7", PAIRS, 5).due("finish() = 6; undoDepth() = 2");
        script.due("setWeight(-1, 1) = -1; setWeight(5, 1) = -1; setWeight(0, 0) = -1; setWeight(0, 10) = -1; "
            + "setWeight(3, 0) = -1; setWeight(3, 10) = -1; setWeight(3, 1) = -2; setWeight(0, 5) = -2; undoDepth() = 2; "
            + "setWeight(0, 9) = 5; weight(0) = 9; setWeight(0, 1) = 9; weight(0) = 1; musCount() = 2; mssCount() = 4; "
            + "unexploredCount() = 0; undoDepth() = 4; undo() = 3; weight(0) = 9; undo() = 2; weight(0) = 5");
        loaded("promise 7, extremes", "or1;", 1).due("setWeight(" + LEAST + ", 2) = -1; setWeight(0, " + GREATEST + ") = -1");
    }

    private static void setStrategy() {
        Script script = loaded("promise 8", PAIRS, 5).due("step() = 2; step() = 2");
        invalid(script, "setStrategy", -1, 2, LEAST, GREATEST);
        script.due("setStrategy(0) = -2; undoDepth() = 3; setStrategy(1) = 0; musCount() = 2; seed() = 0; setStrategy(1) = -2; "
            + "setStrategy(0) = 1; seed() = 5; undoDepth() = 5; undo() = 4; setStrategy(1) = -2");
    }

    private static void step() {
        loaded("promise 9, largest first", PAIRS, 5).due("seed() = 23; step() = 2; mus(0) = 20; unexploredCount() = 12; "
            + "seed() = 7; step() = 2; mus(1) = 3; unexploredCount() = 9; seed() = 5; step() = 1; mss(0) = 5; "
            + "unexploredCount() = 5; seed() = 6; step() = 1; mss(1) = 6; unexploredCount() = 3; seed() = 17; step() = 1; "
            + "mss(2) = 17; unexploredCount() = 1; seed() = 18; step() = 1; mss(3) = 18; unexploredCount() = 0; seed() = -9; "
            + "undoDepth() = 5; step() = -2; undoDepth() = 5; musCount() = 2; mssCount() = 4");
        loaded("promise 9, smallest first", PAIRS, 5).due("setStrategy(1) = 0; seed() = 0; step() = 1; mss(0) = 5; "
            + "seed() = 2; step() = 1; mss(1) = 6; seed() = 16; step() = 1; mss(2) = 17; seed() = 3; step() = 2; mus(0) = 3; "
            + "seed() = 18; step() = 1; mss(3) = 18; seed() = 20; step() = 2; mus(1) = 20; seed() = -9; step() = -2");
        loaded("promise 9, hard conflict", HARD_CONFLICT, 3).due("seed() = 4; unexploredCount() = 2; step() = 2; mus(0) = 0; "
            + "mssCount() = 0; unexploredCount() = 0; step() = -2; undo() = 1; musCount() = 0; setStrategy(1) = 0; seed() = 0; "
            + "step() = 2; mus(0) = 0; seed() = -9");
    }

    private static void finish() {
        loaded("promise 10", PAIRS, 5).due("step() = 2; finish() = 5; finish() = -2; undoDepth() = 3; mus(0) = 20; mus(1) = 3; "
            + "mss(0) = 5; mss(1) = 6; mss(2) = 17; mss(3) = 18; undo() = 2; musCount() = 1; mssCount() = 0; "
            + "unexploredCount() = 12; finish() = 5; undo() = 2; undo() = 1; finish() = 6; setWeight(0, 1) = 5; finish() = -2; "
            + "setStrategy(1) = 0; finish() = -2; setHard(3, 0) = 5; finish() = 8");
        Script.of("promise 10, no constraints").due("finish() = 1; mss(0) = 0; finish() = -2; undoDepth() = 1; undo() = 0; mssCount() = 0");
        loaded("promise 10, all satisfiable", "or1;".repeat(10), 10).due("unexploredCount() = 1024; finish() = 1; mss(0) = 1023; "
            + "musCount() = 0");
    }

    private static void undo() {
        Script.of("promise 11").due("undo() = -2; setStrategy(1) = 0; setStrategy(0) = 1; undo() = 1; setStrategy(1) = -2; "
            + "undo() = 0; setStrategy(0) = -2; undo() = -2");
        loaded("promise 11, every change", PAIRS, 5).due("setHard(1, 1) = 3; undo() = 1; softConstraints() = 23; weight(1) = 2; "
            + "remove(1) = 4; undo() = 1; constraintCount() = 5; weight(1) = 2; softConstraints() = 23; violated(1) = 6; "
            + "setWeight(1, 8) = 2; undo() = 1; weight(1) = 2; step() = 2; undo() = 1; musCount() = 0; unexploredCount() = 16; "
            + "seed() = 23; finish() = 6; undo() = 1; mssCount() = 0; undo() = 0; constraintCount() = 0; undo() = -2");
        loaded("promise 11, text is no state", "or1;", 1).text("or").due("setWeight(0, 2) = 1; append(50) = 3; undo() = 1; "
            + "append(59) = 4; load() = 1; undo() = 1; clearText() = 0; weight(0) = 1; violated(2) = 1");
    }

    private static void undoLimit() {
        loaded("promise 11, five states", "or1;", 1).due("undoDepth() = 1; setWeight(0, 2) = 1; setWeight(0, 3) = 2; "
            + "setWeight(0, 4) = 3; setWeight(0, 5) = 4; undoDepth() = 5; setWeight(0, 6) = 5; undoDepth() = 5; "
            + "setWeight(0, 7) = 6; undoDepth() = 5; undo() = 4; weight(0) = 6; undo() = 3; weight(0) = 5; undo() = 2; "
            + "weight(0) = 4; setWeight(0, 9) = 4; undoDepth() = 3; undo() = 2; weight(0) = 4; undo() = 1; weight(0) = 3; "
            + "undo() = 0; weight(0) = 2; undo() = -2; weight(0) = 2; constraintCount() = 1; undoDepth() = 0");
    }

    private static void seedAndUnexploredCount() {
        loaded("promises 12 and 13", "or1;or-1;hard or2;or3;", 4).due("softConstraints() = 11; unexploredCount() = 8; seed() = 11; "
            + "setStrategy(1) = 0; seed() = 0; seed() = 0; undoDepth() = 2; step() = 1; mss(0) = 9; unexploredCount() = 4; "
            + "seed() = 2; setStrategy(0) = 1; seed() = 11; step() = 2; mus(0) = 3; unexploredCount() = 2; seed() = 10; "
            + "step() = 1; mss(1) = 10; seed() = -9; unexploredCount() = 0");
        loaded("promises 12 and 13, all hard", "hard or1;hard or2;", 2).due("unexploredCount() = 1; seed() = 0; step() = 1; "
            + "mss(0) = 0; seed() = -9; unexploredCount() = 0");
    }

    private static void lists() {
        Script script = loaded("promises 14 to 17", PAIRS, 5).due("mus(0) = -9; mss(0) = -9; finish() = 6; musCount() = 2; "
            + "mssCount() = 4; mus(0) = 20; mus(1) = 3; mus(2) = -9; mss(0) = 5; mss(3) = 18; mss(4) = -9");
        invalid(script, "mus", -1, -2, LEAST);
        invalid(script, "mss", -1, -2, LEAST);
        script.due("mus(" + GREATEST + ") = -9; mss(" + GREATEST + ") = -9; mus(252) = -9; mss(252) = -9; mss(2) = 17; "
            + "undo() = 1; mus(0) = -9; mss(0) = -9; musCount() = 0; mssCount() = 0");
    }

    private static void weight() {
        Script script = loaded("promise 18", PAIRS, 5).due("weight(0) = 5; weight(1) = 2; weight(2) = 1; weight(3) = 0; weight(4) = 4");
        invalid(script, "weight", -1, 5, 9, 10, LEAST, GREATEST);
    }

    private static void violated() {
        Script script = loaded("promise 19", PAIRS, 5).due("violated(0) = 5; violated(63) = 18; violated(2) = 9; violated(7) = 18; violated(1) = 6");
        invalid(script, "violated", -1, 64, LEAST, GREATEST);
        loaded("promise 19, ten", "or1;".repeat(10), 10).due("violated(0) = 1023; violated(1) = 0; violated(62) = 1023");
    }

    private static void models() {
        Script script = loaded("promises 20 and 21", PAIRS, 5).due("modelCount(0) = 48; modelCount(1) = 24; modelCount(4) = 16; "
            + "modelCount(20) = 0; modelCount(3) = 0; modelCount(17) = 8; firstModel(0) = 0; firstModel(1) = 1; firstModel(4) = 6; "
            + "firstModel(5) = 7; firstModel(3) = -9; firstModel(23) = -9");
        invalid(script, "modelCount", 8, 32, 31, 1024, -1, LEAST, GREATEST);
        invalid(script, "firstModel", 8, 32, 31, 1024, -1, LEAST, GREATEST);
        loaded("promises 20 and 21, hard conflict", HARD_CONFLICT, 3).due("modelCount(0) = 0; firstModel(0) = -9; firstModel(4) = -9");
        loaded("promise 21, the last assignment", "most0-1-2-3-4-5-6;", 1).due("firstModel(1) = 63; modelCount(1) = 1");
    }

    private static void grownAndShrunk() {
        Script script = loaded("promises 22 and 23", PAIRS, 5).due("grown(0) = 5; grown(16) = 17; grown(2) = 6; grown(18) = 18; "
            + "grown(3) = -2; grown(23) = -2; shrunk(23) = 20; shrunk(7) = 3; shrunk(19) = 3; shrunk(3) = 3; shrunk(22) = 20; "
            + "shrunk(0) = -2; shrunk(18) = -2; musCount() = 0; mssCount() = 0; undoDepth() = 1; unexploredCount() = 16");
        invalid(script, "grown", 8, 32, 31, 1024, -1, LEAST, GREATEST);
        invalid(script, "shrunk", 8, 32, 31, 1024, -1, LEAST, GREATEST);
        loaded("promises 22 and 23, hard conflict", HARD_CONFLICT, 3).due("grown(0) = -2; grown(4) = -2; shrunk(0) = 0; shrunk(4) = 0; "
            + "shrunk(1) = -1; grown(1) = -1");
        Script.of("promises 22 and 23, no constraints").due("grown(0) = 0; shrunk(0) = -2; grown(1) = -1; shrunk(1) = -1");
    }

    private static void critical() {
        Script script = loaded("promise 24", PAIRS, 5).due("critical(3) = 3; critical(7) = 3; critical(20) = 20; critical(21) = 20; "
            + "critical(23) = 0; critical(0) = -2; critical(5) = -2");
        invalid(script, "critical", 8, 32, 31, 1024, -1, LEAST, GREATEST);
        loaded("promise 24, hard conflict", HARD_CONFLICT, 3).due("critical(0) = 0; critical(4) = 0");
        loaded("promise 24, in common", LOW_HUB, 3).due("critical(7) = 1; critical(3) = 3; critical(6) = -2");
    }

    private static void hittingSets() {
        loaded("promises 25 and 26", PAIRS, 5).due("smallestHittingSet() = 0; cheapestHittingSet() = 0; step() = 2; "
            + "smallestHittingSet() = 4; cheapestHittingSet() = 4; setWeight(4, 1) = 4; cheapestHittingSet() = 4; "
            + "setWeight(2, 9) = 1; cheapestHittingSet() = 16; smallestHittingSet() = 4; finish() = 5; "
            + "smallestHittingSet() = 5; cheapestHittingSet() = 18; undoDepth() = 5");
        loaded("promises 25 and 26, tie at the low hub", LOW_HUB, 3).due("finish() = 4; musCount() = 2; smallestHittingSet() = 1; "
            + "cheapestHittingSet() = 1; setWeight(0, 4) = 3; cheapestHittingSet() = 6; smallestHittingSet() = 1");
        loaded("promises 25 and 26, tie at the high hub", HIGH_HUB, 3).due("finish() = 4; smallestHittingSet() = 4; "
            + "cheapestHittingSet() = 3; setWeight(2, 2) = 3; cheapestHittingSet() = 4");
        loaded("promises 25 and 26, hard conflict", HARD_CONFLICT, 3).due("smallestHittingSet() = 0; cheapestHittingSet() = 0; "
            + "step() = 2; smallestHittingSet() = -9; cheapestHittingSet() = -9");
    }

    private static void heaviestSatisfiable() {
        loaded("promise 27", PAIRS, 5).due("heaviestSatisfiable() = 17; setWeight(1, 9) = 2; heaviestSatisfiable() = 18; "
            + "setWeight(2, 9) = 1; heaviestSatisfiable() = 6; finish() = 6; heaviestSatisfiable() = 6; setHard(0, 1) = 3; "
            + "heaviestSatisfiable() = 4");
        loaded("promise 27, low tie", LOW_HUB, 3).due("heaviestSatisfiable() = 1; setWeight(0, 2) = 3; heaviestSatisfiable() = 6");
        loaded("promise 27, high tie", HIGH_HUB, 3).due("heaviestSatisfiable() = 3; setWeight(2, 4) = 3; heaviestSatisfiable() = 4");
        loaded("promise 27, hard conflict", HARD_CONFLICT, 3).due("heaviestSatisfiable() = -9");
        loaded("promise 27, the first assignment alone", "most0 1 2 3 4 5 6;or1 2 3 4 5 6w2;", 2).due("heaviestSatisfiable() = 2; "
            + "setHard(0, 1) = 1; heaviestSatisfiable() = 0; setHard(1, 1) = 0; heaviestSatisfiable() = -9; remove(1) = 1; "
            + "heaviestSatisfiable() = 0");
        loaded("promise 27, the last assignment alone", "hard most0-1-2-3-4-5-6;or6;", 2).due("heaviestSatisfiable() = 2");
        loaded("promise 27, hard alone", "hard or1;", 1).due("heaviestSatisfiable() = 0");
    }

    private static void blame() {
        Script script = loaded("promise 28", PAIRS, 5).due("blame(0) = 0; step() = 2; blame(0) = 0; blame(2) = 500; blame(4) = 500; "
            + "blame(3) = 0; finish() = 5; blame(0) = 500; blame(1) = 500; blame(3) = 0");
        invalid(script, "blame", -1, 5, 10, 32, LEAST, GREATEST);
        // MUSes {0, 1, 2} and {4}: 333 for each of three, 1000 for the one that the hard constraint rules out.
        loaded("promise 28, rounding", "or1;or2;or-1-2;hard or3;or-3;", 5).due("finish() = 5; musCount() = 2; blame(0) = 333; "
            + "blame(1) = 333; blame(2) = 333; blame(3) = 0; blame(4) = 1000");
        // Two MUSes {0, 1, 2} and {0, 1, 3}: each is rounded down on its own.
        loaded("promise 28, rounded separately", "or1;or2;or-1-2;or-2-1;", 4).due("finish() = 5; blame(0) = 666; blame(1) = 666; "
            + "blame(2) = 333; blame(3) = 333");
        loaded("promise 28, hard conflict", HARD_CONFLICT, 3).due("step() = 2; blame(0) = 0; blame(2) = 0; blame(3) = -1");
    }

    private static void saveAndRestore() {
        Script script = loaded("promises 29 and 30", PAIRS, 5).due("setStrategy(1) = 0; step() = 1; undoDepth() = 3; save(0) = 5; "
            + "undoDepth() = 3");
        invalid(script, "save", -1, 2, LEAST, GREATEST);
        invalid(script, "restore", -1, 2, LEAST, GREATEST);
        script.due("restore(1) = -2; undoDepth() = 3; finish() = 5; setWeight(0, 9) = 5; remove(4) = 4; save(1) = 4; setStrategy(0) = 1; "
            + "undoDepth() = 5; restore(0) = 5; undoDepth() = 0; undo() = -2; mssCount() = 1; musCount() = 0; weight(0) = 5; "
            + "setStrategy(1) = -2; unexploredCount() = 12; seed() = 2; step() = 1; undoDepth() = 1; restore(1) = 4; "
            + "undoDepth() = 0; weight(0) = 9; mssCount() = 0; setStrategy(1) = -2; restore(0) = 5; mssCount() = 1; mss(0) = 5; "
            + "setHard(0, 1) = 3; save(0) = 5; undo() = 0; weight(0) = 5; restore(0) = 5; weight(0) = 0; unexploredCount() = 8");
        Script.of("promises 29 and 30, no constraints").due("save(0) = 0; setStrategy(1) = 0; restore(0) = 0; setStrategy(0) = -2; "
            + "restore(1) = -2; save(1) = 0; undoDepth() = 0");
        loaded("promise 30, text kept", "or1;", 1).due("save(1) = 1").text("or").due("restore(1) = 1; clearText() = 2");
    }

    private static void slotsAndLoad() {
        loaded("slots outlive all but load", PAIRS, 5).due("save(0) = 5; remove(0) = 4; setHard(0, 1) = 2; undo() = 2; finish() = 3; "
            + "restore(0) = 5; save(1) = 5").load("or9;", -12).due("restore(1) = 5; restore(0) = 5; clearText() = 4; load() = 0; "
            + "restore(0) = -2; restore(1) = -2; undo() = 0; restore(0) = -2; restore(1) = -2; constraintCount() = 5; save(0) = 5; "
            + "restore(0) = 5; restore(1) = -2");
    }

    private static void counts() {
        loaded("promises 31 to 33", PAIRS, 5).due("constraintCount() = 5; softConstraints() = 23; undoDepth() = 1; remove(4) = 4; "
            + "constraintCount() = 4; softConstraints() = 7; undoDepth() = 2; setHard(0, 1) = 2; softConstraints() = 6; "
            + "constraintCount() = 4; undoDepth() = 3; undo() = 2; undoDepth() = 2");
        loaded("promises 31 to 33, ten", "or1;".repeat(10), 10).due("constraintCount() = 10; softConstraints() = 1023");
    }

    private static void errorsChangeNothing() {
        loaded("errors change nothing", PAIRS, 5).due("finish() = 6; step() = -2; finish() = -2; remove(5) = -1; setHard(3, 1) = -2; "
            + "setWeight(3, 2) = -2; setStrategy(0) = -2; save(2) = -1; restore(0) = -2; undoDepth() = 2; musCount() = 2; "
            + "mssCount() = 4; softConstraints() = 23; weight(3) = 0; undo() = 1; undo() = 0; undo() = -2; constraintCount() = 0");
    }
}
