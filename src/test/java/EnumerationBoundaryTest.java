/**
 * Seeds, steps, lists, hitting sets and blame at every limit that the document names. A test's name
 * is the sentence that it tests, or what the sentence is about.
 */
public final class EnumerationBoundaryTest {
    private static final int LEAST = Integer.MIN_VALUE;
    private static final int GREATEST = Integer.MAX_VALUE;
    /** Constraints 0 and 2 want x1, 1 and 3 its negation: MUSes 3, 6, 9, 12 and MSSes 5, 10. */
    private static final String CROSS = "or1;or-1;or1;or-1;";
    /** Five contradictions that have nothing to do with one another: 5 MUSes and 32 MSSes. */
    private static final String FIVE_PAIRS = "or1;or-1;or2;or-2;or3;or-3;or4;or-4;or5;or-5;";

    public static void main(String[] args) {
        hardConflict();
        hardConflictOfAllSizes();
        noSoftConstraints();
        oneMssOfAllSizes();
        largestFirst();
        smallestFirst();
        strategyChangedMidway();
        exploredIncludesItself();
        grow();
        shrink();
        critical();
        completeEnumeration();
        finishAfterSteps();
        longEnumeration();
        listPositions();
        listsBecomeEmpty();
        listsAreKept();
        hittingSetsWithoutMus();
        smallestHittingSet();
        cheapestHittingSet();
        noHittingSet();
        blameOfAllSizes();
        blameIsRoundedSeparately();
        blameOfHardConstraints();
        queriesChangeNothing();
        Script.end();
    }

    private static void hardConflict() {
        String sentence = "If the hard constraints alone cannot be satisfied, the empty selection is the only MUS "
            + "and there is no MSS.";
        String system = "hard or1;or2;hard or-1;or-2;";
        Script.loaded(sentence + " (largest first)", system, 4).due("unexploredCount() = 4; seed() = 10; step() = 2; mus(0) = 0; "
            + "musCount() = 1; mssCount() = 0; unexploredCount() = 0; seed() = -9").unchanged("step() = -2; finish() = -2; "
            + "mus(1) = -9; mss(0) = -9").due("undo() = 1; finish() = 1; musCount() = 1; mus(0) = 0; mssCount() = 0");
        Script.loaded(sentence + " (smallest first)", system, 4).due("setStrategy(1) = 0; seed() = 0; step() = 2; mus(0) = 0; "
            + "unexploredCount() = 0; seed() = -9; step() = -2; undo() = 2; finish() = 1; mus(0) = 0; mssCount() = 0");
        Script.loaded(sentence + " (selections)", system, 4).due("modelCount(0) = 0; modelCount(10) = 0; firstModel(0) = -9; "
            + "firstModel(2) = -9; shrunk(0) = 0; shrunk(2) = 0; shrunk(8) = 0; shrunk(10) = 0; critical(0) = 0; "
            + "critical(2) = 0; critical(10) = 0; heaviestSatisfiable() = -9").unchanged("grown(0) = -2; grown(2) = -2; "
            + "grown(10) = -2");
        Script.loaded("the hard constraints alone can just be satisfied", "hard or1;or2;hard or-1 6;or-2;", 4)
            .due("finish() = 3; mus(0) = 10; mss(0) = 2; mss(1) = 8; musCount() = 1");
    }

    private static void hardConflictOfAllSizes() {
        for (int soft = 0; soft <= 8; soft++) {
            int all = (1 << soft + 2) - 4;
            String system = "hard or1;hard or-1;" + "or2;".repeat(soft);
            Script.loaded("a hard conflict beside " + soft + " soft constraints", system, soft + 2)
                .due("unexploredCount() = " + (1 << soft) + "; seed() = " + all + "; shrunk(" + all + ") = 0; "
                + "finish() = 1; mus(0) = 0; mssCount() = 0; unexploredCount() = 0; seed() = -9; finish() = -2");
        }
    }

    private static void noSoftConstraints() {
        Script.of("no constraints at all").due("unexploredCount() = 1; seed() = 0; step() = 1; mss(0) = 0; mssCount() = 1; "
            + "musCount() = 0; unexploredCount() = 0; seed() = -9").unchanged("step() = -2; finish() = -2")
            .due("setStrategy(1) = 0; seed() = -9; step() = -2; undo() = 1; undo() = 0; unexploredCount() = 1");
        Script.loaded("hard constraints alone", "hard or1;hard or2;", 2).due("unexploredCount() = 1; seed() = 0; finish() = 1; "
            + "mss(0) = 0; musCount() = 0; seed() = -9");
    }

    private static void oneMssOfAllSizes() {
        for (int count = 0; count <= 10; count++) {
            int all = (1 << count) - 1;
            Script.loaded("all of " + count + " constraints together", "or1;".repeat(count), count).due("unexploredCount() = "
                + (all + 1) + "; seed() = " + all + "; step() = 1; mss(0) = " + all + "; unexploredCount() = 0; seed() = -9; "
                + "undo() = 1; setStrategy(1) = 0; seed() = 0; step() = 1; mss(0) = " + all + "; unexploredCount() = 0; "
                + "step() = -2");
        }
    }

    private static void largestFirst() {
        Script.loaded("the seed with the most constraints; among several the one with the smallest number", CROSS, 4)
            .due("unexploredCount() = 16; seed() = 15; step() = 2; mus(0) = 12; unexploredCount() = 12; seed() = 7; step() = 2; "
            + "mus(1) = 6; unexploredCount() = 10; seed() = 11; step() = 2; mus(2) = 9; unexploredCount() = 8; seed() = 3; "
            + "step() = 2; mus(3) = 3; unexploredCount() = 7; seed() = 5; step() = 1; mss(0) = 5; unexploredCount() = 3; "
            + "seed() = 10; step() = 1; mss(1) = 10; unexploredCount() = 0; seed() = -9; step() = -2; musCount() = 4; "
            + "mssCount() = 2");
    }

    private static void smallestFirst() {
        Script.loaded("the seed with the fewest constraints; among several the one with the smallest number", CROSS, 4)
            .due("setStrategy(1) = 0; unexploredCount() = 16; seed() = 0; step() = 1; mss(0) = 5; unexploredCount() = 12; "
            + "seed() = 2; step() = 1; mss(1) = 10; unexploredCount() = 9; seed() = 3; step() = 2; mus(0) = 3; "
            + "unexploredCount() = 5; seed() = 6; step() = 2; mus(1) = 6; unexploredCount() = 3; seed() = 9; step() = 2; "
            + "mus(2) = 9; unexploredCount() = 1; seed() = 12; step() = 2; mus(3) = 12; unexploredCount() = 0; seed() = -9; "
            + "step() = -2; musCount() = 4; mssCount() = 2");
    }

    private static void strategyChangedMidway() {
        Script.loaded("the strategy chooses among the same unexplored selections", CROSS, 4).due("step() = 2; seed() = 7; "
            + "setStrategy(1) = 0; seed() = 0; unexploredCount() = 12; step() = 1; mss(0) = 5; unexploredCount() = 8; "
            + "seed() = 2; setStrategy(0) = 1; seed() = 7; step() = 2; mus(1) = 6; undo() = 4; undo() = 3; seed() = 2");
    }

    private static void exploredIncludesItself() {
        Script.loaded("each set counts as a subset and a superset of itself", "or1;or-1;", 2).due("step() = 2; mus(0) = 3; "
            + "unexploredCount() = 3; seed() = 1; step() = 1; mss(0) = 1; unexploredCount() = 1; seed() = 2; step() = 1; "
            + "mss(1) = 2; unexploredCount() = 0");
        Script.loaded("the last unexplored selection is a MUS", "or1;or-1;", 2).due("setStrategy(1) = 0; step() = 1; step() = 1; "
            + "unexploredCount() = 1; seed() = 3; step() = 2; mus(0) = 3; unexploredCount() = 0; seed() = -9");
        // The superset of the MUS {1} is explored within the soft constraints alone.
        Script.loaded("supersets of a single one", "hard or1;or-1;or2;", 3).due("seed() = 6; step() = 2; mus(0) = 2; "
            + "unexploredCount() = 2; seed() = 4; step() = 1; mss(0) = 4; unexploredCount() = 0");
    }

    private static void grow() {
        String sentence = "To grow: for each soft constraint not in it, in increasing order of index, add that constraint "
            + "if the enlarged selection is still satisfiable.";
        Script.loaded(sentence, CROSS, 4).unchanged("grown(0) = 5; grown(1) = 5; grown(4) = 5; grown(5) = 5; grown(2) = 10; "
            + "grown(8) = 10; grown(10) = 10").unchanged("grown(3) = -2; grown(6) = -2; grown(9) = -2; grown(12) = -2; "
            + "grown(15) = -2");
        Script.loaded(sentence + " (hard ones are left out)", "or-1;hard or1;or2;or-2;or3;", 5).due("grown(0) = 20; "
            + "grown(8) = 24; grown(16) = 20; grown(1) = -2");
        Script.loaded(sentence + " (the first and the last of ten)", "or1;or-1;or-1;or-1;or-1;or-1;or-1;or-1;or-1;or1;", 10)
            .due("grown(0) = 513; grown(512) = 513; grown(256) = 510; grown(2) = 510");
    }

    private static void shrink() {
        String sentence = "To shrink: for each of its constraints, in increasing order of index, remove that constraint "
            + "if the reduced selection is still unsatisfiable.";
        Script.loaded(sentence, CROSS, 4).unchanged("shrunk(15) = 12; shrunk(14) = 12; shrunk(13) = 12; shrunk(12) = 12; "
            + "shrunk(11) = 9; shrunk(9) = 9; shrunk(7) = 6; shrunk(6) = 6; shrunk(3) = 3").unchanged("shrunk(0) = -2; "
            + "shrunk(1) = -2; shrunk(8) = -2; shrunk(5) = -2; shrunk(10) = -2");
        Script.loaded(sentence + " (one that a hard constraint rules out)", "hard or1;or-1;or2;or-2;", 4).due("shrunk(14) = 12; "
            + "shrunk(2) = 2; shrunk(6) = 2; shrunk(12) = 12; shrunk(4) = -2");
        Script.loaded(sentence + " (the first and the last of ten)", "or1;or2;or2;or2;or2;or2;or2;or2;or2;or-1;", 10)
            .due("shrunk(1023) = 513; shrunk(513) = 513; shrunk(512) = -2");
    }

    private static void critical() {
        String sentence = "those of its constraints whose removal alone makes it satisfiable";
        Script.loaded(sentence, CROSS, 4).unchanged("critical(15) = 0; critical(7) = 2; critical(11) = 1; critical(13) = 8; "
            + "critical(14) = 4; critical(3) = 3; critical(6) = 6; critical(9) = 9; critical(12) = 12")
            .unchanged("critical(0) = -2; critical(1) = -2; critical(5) = -2; critical(10) = -2");
        Script.loaded(sentence + " (the first and the last of ten)", "or1;or2;or2;or2;or2;or2;or2;or2;or2;or-1;", 10)
            .due("critical(1023) = 513; critical(513) = 513; critical(514) = -2");
        Script.loaded(sentence + " (hard conflict)", "hard or1;hard or-1;or2;", 3).due("critical(0) = 0; critical(4) = 0");
        Script.loaded(sentence + " (one alone)", "hard or1;or-1;or2;", 3).due("critical(2) = 2; critical(6) = 2; "
            + "critical(4) = -2");
    }

    private static void completeEnumeration() {
        String sentence = "ILLEGAL_STATE if the enumeration is complete";
        Script script = Script.loaded(sentence, CROSS, 4).due("step() = 2; step() = 2; step() = 2; step() = 2; step() = 1; "
            + "unexploredCount() = 3; seed() = 10; step() = 1");
        script.unchanged("step() = -2; finish() = -2; seed() = -9; unexploredCount() = 0").due("undoDepth() = 5; "
            + "setWeight(0, 2) = 1; step() = -2; setStrategy(1) = 0; step() = -2; finish() = -2; undo() = 4; undo() = 3; "
            + "undo() = 2; unexploredCount() = 3; seed() = 10; finish() = 1; finish() = -2");
        Script.loaded(sentence + ", until the system changes", CROSS, 4).due("finish() = 6; finish() = -2; setHard(0, 1) = 3; "
            + "finish() = 3; step() = -2; remove(0) = 3; step() = 2; finish() = 3; finish() = -2; load() = 0; step() = 1; "
            + "step() = -2");
    }

    private static void finishAfterSteps() {
        String sentence = "Returns the number of steps performed. All of them together are undone by a single undo().";
        for (int before = 0; before <= 5; before++) {
            Script script = Script.loaded(sentence, CROSS, 4);
            for (int i = 0; i < before; i++) {
                script.due("step() = " + (i < 4 ? 2 : 1));
            }
            int depth = Math.min(before + 2, 5);
            script.due("finish() = " + (6 - before) + "; undoDepth() = " + depth + "; mus(0) = 12; mus(1) = 6; mus(2) = 9; "
                + "mus(3) = 3; mss(0) = 5; mss(1) = 10; undo() = " + (depth - 1) + "; musCount() = " + Math.min(before, 4) + "; "
                + "mssCount() = " + Math.max(before - 4, 0));
        }
    }

    private static void longEnumeration() {
        Script.loaded("many MSSes", FIVE_PAIRS, 10).due("unexploredCount() = 1024; seed() = 1023; finish() = 37; musCount() = 5; "
            + "mssCount() = 32; mus(0) = 768; mus(1) = 192; mus(2) = 48; mus(3) = 12; mus(4) = 3; mus(5) = -9; mss(0) = 341; "
            + "mss(1) = 342; mss(31) = 682; mss(32) = -9; unexploredCount() = 0; undo() = 1; musCount() = 0; mssCount() = 0; "
            + "unexploredCount() = 1024");
        Script.loaded("many MSSes, smallest first", FIVE_PAIRS, 10).due("setStrategy(1) = 0; finish() = 37; musCount() = 5; "
            + "mssCount() = 32; mss(0) = 341; mus(0) = 3; mus(5) = -9; mss(32) = -9; unexploredCount() = 0; "
            + "smallestHittingSet() = 341; cheapestHittingSet() = 341; heaviestSatisfiable() = 341");
        // Five and five against each other: 25 MUSes of two, 2 MSSes.
        Script.loaded("many MUSes", "or1;or-1;".repeat(5), 10).due("finish() = 27; musCount() = 25; mssCount() = 2; mus(24) = 3; "
            + "mus(25) = -9; mss(0) = 341; mss(1) = 682; mss(2) = -9; blame(0) = 2500; blame(9) = 2500; "
            + "smallestHittingSet() = 341");
    }

    private static void listPositions() {
        Script script = Script.loaded("INVALID_ARGUMENT if position is negative; NONE if the list has no such position", CROSS, 4)
            .invalid("mus", -1, -2, LEAST).invalid("mss", -1, -2, LEAST).unchanged("mus(0) = -9; mss(0) = -9; mus(1) = -9; mus("
            + GREATEST + ") = -9; mss(" + GREATEST + ") = -9");
        script.due("step() = 2; mus(0) = 12; musCount() = 1").unchanged("mus(1) = -9; mss(0) = -9").due("finish() = 5; "
            + "musCount() = 4; mssCount() = 2; mus(3) = 3; mss(1) = 10").unchanged("mus(4) = -9; mss(2) = -9; mus(" + GREATEST
            + ") = -9; mss(" + GREATEST + ") = -9; mus(0) = 12; mss(0) = 5").invalid("mus", -1, -9, LEAST).invalid("mss", -1, -9, LEAST);
        script.due("undo() = 2; mus(1) = -9; mus(0) = 12; mss(0) = -9; undo() = 1; mus(0) = -9");
    }

    private static void listsBecomeEmpty() {
        String sentence = "Both lists become empty whenever load(), remove() or setHard() succeeds.";
        String empty = "; musCount() = 0; mssCount() = 0; mus(0) = -9; mss(0) = -9; smallestHittingSet() = 0; "
            + "cheapestHittingSet() = 0; blame(0) = ";
        Script.loaded(sentence + " load", CROSS, 4).due("finish() = 6; load() = 0" + empty + "-1; unexploredCount() = 1");
        Script.loaded(sentence + " load", CROSS, 4).due("finish() = 6").load(CROSS, 4).due("constraintCount() = 4" + empty + "0; "
            + "unexploredCount() = 16; seed() = 15");
        Script.loaded(sentence + " remove", CROSS, 4).due("finish() = 6; remove(3) = 3" + empty + "0; unexploredCount() = 8; "
            + "seed() = 7");
        Script.loaded(sentence + " setHard", CROSS, 4).due("finish() = 6; setHard(3, 1) = 3" + empty + "0; "
            + "unexploredCount() = 8; seed() = 7; finish() = 3; setHard(3, 0) = 4" + empty + "0; unexploredCount() = 16; "
            + "seed() = 15");
    }

    private static void listsAreKept() {
        Script.loaded("They are not changed by setWeight() and setStrategy().", CROSS, 4).due("step() = 2; step() = 2; "
            + "setWeight(0, 9) = 1; musCount() = 2; mus(0) = 12; mus(1) = 6; unexploredCount() = 10; seed() = 11; "
            + "setStrategy(1) = 0; musCount() = 2; mus(0) = 12; mus(1) = 6; unexploredCount() = 10; seed() = 0; step() = 1; "
            + "mss(0) = 5; setStrategy(0) = 1; mss(0) = 5; mssCount() = 1; setWeight(0, 8) = 9; mss(0) = 5; musCount() = 2; "
            + "unexploredCount() = 6");
    }

    private static void hittingSetsWithoutMus() {
        Script.of("no MUS found: the empty set hits them all").unchanged("smallestHittingSet() = 0; cheapestHittingSet() = 0");
        Script.loaded("no MUS found, though there are some", CROSS, 4).unchanged("smallestHittingSet() = 0; "
            + "cheapestHittingSet() = 0").due("setStrategy(1) = 0; step() = 1; smallestHittingSet() = 0; "
            + "cheapestHittingSet() = 0");
        Script.loaded("there is no MUS", "or1;or2;", 2).due("finish() = 1; smallestHittingSet() = 0; cheapestHittingSet() = 0");
    }

    private static void smallestHittingSet() {
        Script.loaded("the hitting set with the fewest constraints; among several the one with the smallest number", CROSS, 4)
            .due("step() = 2; smallestHittingSet() = 4; step() = 2; smallestHittingSet() = 4; step() = 2; "
            + "smallestHittingSet() = 5; step() = 2; smallestHittingSet() = 5; finish() = 2; smallestHittingSet() = 5; "
            + "setWeight(0, 9) = 1; smallestHittingSet() = 5");
        Script.loaded("one that hits all, with a great number", "or-1;or-1;or-1;or1;", 4).due("finish() = 5; musCount() = 3; "
            + "smallestHittingSet() = 8; setWeight(3, 9) = 1; smallestHittingSet() = 8; cheapestHittingSet() = 7");
        Script.loaded("the last of ten", "or1;or1;or1;or1;or1;or1;or1;or1;or1;or-1;", 10).due("finish() = 11; musCount() = 9; "
            + "smallestHittingSet() = 512; cheapestHittingSet() = 512");
    }

    private static void cheapestHittingSet() {
        String sentence = "the hitting set whose constraints have the least total weight; among several the one with the "
            + "smallest number";
        Script.loaded(sentence, CROSS, 4).due("finish() = 6; cheapestHittingSet() = 5; setWeight(0, 2) = 1; "
            + "cheapestHittingSet() = 10; setWeight(1, 2) = 1; cheapestHittingSet() = 5; setWeight(3, 2) = 1; "
            + "cheapestHittingSet() = 5; setWeight(2, 2) = 1; cheapestHittingSet() = 5; setWeight(2, 3) = 2; "
            + "cheapestHittingSet() = 10");
        Script.loaded(sentence + " (9 against 9)", "or1w9;" + "or-1;".repeat(9), 10).due("finish() = 11; musCount() = 9; "
            + "cheapestHittingSet() = 1; setWeight(9, 2) = 1; cheapestHittingSet() = 1; setWeight(9, 1) = 2; "
            + "setWeight(0, 8) = 9; cheapestHittingSet() = 1");
        Script.loaded(sentence + " (9 against 9, the other way round)", "or-1;".repeat(9) + "or1w9;", 10).due("finish() = 11; "
            + "musCount() = 9; cheapestHittingSet() = 511; smallestHittingSet() = 512; setWeight(0, 2) = 1; "
            + "cheapestHittingSet() = 512; setWeight(0, 1) = 2; cheapestHittingSet() = 511; setWeight(9, 8) = 9; "
            + "cheapestHittingSet() = 512");
    }

    private static void noHittingSet() {
        String sentence = "NONE if there is none, which is the case only if the empty selection is a found MUS";
        Script.loaded(sentence, "hard or1;hard or-1;or2;", 3).unchanged("smallestHittingSet() = 0; cheapestHittingSet() = 0")
            .due("step() = 2").unchanged("smallestHittingSet() = -9; cheapestHittingSet() = -9").due("undo() = 1; "
            + "smallestHittingSet() = 0; cheapestHittingSet() = 0; finish() = 1; smallestHittingSet() = -9; "
            + "cheapestHittingSet() = -9; setHard(0, 0) = 2; smallestHittingSet() = 0; cheapestHittingSet() = 0; finish() = 2; "
            + "smallestHittingSet() = 1; cheapestHittingSet() = 1");
    }

    private static void blameOfAllSizes() {
        String sentence = "1000 / n, rounded down, where n is the number of constraints of that MUS";
        // From eight on: all clauses over three variables, of which some are parted by a fourth one.
        String eight = "or1 2-3;or1-2 3;or1-2-3;or-1 2 3;or-1 2-3;or-1-2 3;";
        String[] systems = {
            "or1;or-1;", "or1;or2;or-1-2;", "or1;or2;or3;or-1-2-3;", "or1;or2;or3;or4;or-1-2-3-4;",
            "or1;or2;or3;or4;or5;or-1-2-3-4-5;", "or1;or2;or3;or4;or5;or6;or-1-2-3-4-5-6;", eight + "or1 2 3;or-1-2-3;",
            eight + "or1 2 3 4;or1 2 3-4;or-1-2-3;", eight + "or1234;or123-4;or-1-2-3 4;or-1-2-3-4;",
        };
        int[] blames = {500, 333, 250, 200, 166, 142, 125, 111, 100};
        for (int i = 0; i < systems.length; i++) {
            int size = i + 2;
            Script script = Script.loaded(sentence + " (" + size + ")", systems[i], size).due("blame(0) = 0; step() = 2; "
                + "mus(0) = " + ((1 << size) - 1));
            for (int constraint = 0; constraint < size; constraint++) {
                script.due("blame(" + constraint + ") = " + blames[i]);
            }
            script.invalid("blame", -1, size);
        }
        Script.loaded(sentence + " (1)", "hard or1;or-1;", 2).due("step() = 2; mus(0) = 2; blame(1) = 1000; blame(0) = 0");
    }

    private static void blameIsRoundedSeparately() {
        // Three MUSes of three constraints each have 0 and 1: 3 * 333, not 3000 / 3.
        String sentence = "rounded down separately for each MUS found so far that contains the constraint";
        Script.loaded(sentence, "or1;or2;or-1-2;or-2-1;most1 1 2;", 5)
            .due("step() = 2; blame(0) = 333; step() = 2; blame(0) = 666; step() = 1; step() = 1; step() = 2; blame(0) = 999; "
            + "blame(1) = 999; blame(2) = 333; blame(3) = 333; blame(4) = 333; finish() = 1; blame(0) = 999; undo() = 4; "
            + "undo() = 3; blame(0) = 666");
    }

    private static void blameOfHardConstraints() {
        Script.loaded("0 for a hard constraint", "hard or1;or-1;or-1;", 3).due("finish() = 3; musCount() = 2; blame(0) = 0; "
            + "blame(1) = 1000; blame(2) = 1000; blame(3) = -1; blame(-1) = -1");
        Script.loaded("the empty MUS has no constraint to blame", "hard or1;hard or-1;or2;", 3).due("finish() = 1; mus(0) = 0; "
            + "blame(0) = 0; blame(1) = 0; blame(2) = 0; blame(3) = -1");
    }

    private static void queriesChangeNothing() {
        Script.loaded("a query changes nothing", "or1w2;or-1;hard or3;or2;", 4).due("setStrategy(1) = 0; step() = 1; "
            + "save(0) = 4; step() = 1").text("or1").unchanged("seed() = 3; unexploredCount() = 2; musCount() = 0; mus(0) = -9; "
            + "mssCount() = 2; mss(0) = 9; weight(0) = 2; violated(4) = 9; modelCount(0) = 32; firstModel(8) = 6; grown(2) = 10; "
            + "shrunk(11) = 3; critical(3) = 3; smallestHittingSet() = 0; cheapestHittingSet() = 0; heaviestSatisfiable() = 9; "
            + "blame(0) = 0; constraintCount() = 4; softConstraints() = 11; undoDepth() = 4");
    }
}
