import java.util.ArrayList;
import java.util.List;

/**
 * Rows of calls that together show all that can be seen of an object: its constraints, strategy and
 * lists, its text, its undo history and its slots. Each row is for an object of its own, since most
 * of them change what they look at.
 */
final class Probe {
    static final List<List<Call>> ALL = List.of(state(), selections(), textLength(), textAsItIs(), textGoneOn(";"),
        textGoneOn("1;"), history(), slot(0), slot(1), enumeration());

    private static final int MOST_CONSTRAINTS = 10;

    private Probe() {
    }

    private static List<Call> row(String... methodsWithoutArguments) {
        List<Call> row = new ArrayList<>();
        for (String method : methodsWithoutArguments) {
            row.add(Call.of(method));
        }
        return row;
    }

    private static void addIndexed(List<Call> row, String method, int from, int to) {
        for (int i = from; i <= to; i++) {
            row.add(Call.of(method, i));
        }
    }

    private static List<Call> state() {
        List<Call> row = row("constraintCount", "softConstraints", "undoDepth", "seed", "unexploredCount", "musCount",
            "mssCount", "smallestHittingSet", "cheapestHittingSet", "heaviestSatisfiable");
        addIndexed(row, "mus", 0, 10);
        addIndexed(row, "mss", 0, 34);
        addIndexed(row, "weight", 0, MOST_CONSTRAINTS);
        addIndexed(row, "blame", 0, MOST_CONSTRAINTS);
        addIndexed(row, "violated", 0, 63);
        // The strategy has no method that tells it; the attempt to set it does.
        row.add(Call.of("setStrategy", 0));
        return row;
    }

    private static List<Call> selections() {
        List<Call> row = new ArrayList<>();
        for (String method : new String[] {"modelCount", "firstModel", "grown", "shrunk", "critical"}) {
            addIndexed(row, method, 0, 31);
            row.add(Call.of(method, 1023));
        }
        return row;
    }

    private static List<Call> textLength() {
        return row("clearText", "load", "constraintCount");
    }

    private static List<Call> textAsItIs() {
        List<Call> row = row("load", "load");
        row.addAll(state());
        return row;
    }

    private static List<Call> textGoneOn(String more) {
        List<Call> row = new ArrayList<>();
        more.chars().forEach(code -> row.add(Call.of("append", code)));
        row.addAll(textAsItIs());
        return row;
    }

    private static List<Call> history() {
        List<Call> row = new ArrayList<>();
        for (int i = 0; i < 6; i++) {
            row.addAll(row("undo", "undoDepth", "constraintCount", "softConstraints", "seed", "unexploredCount", "musCount",
                "mssCount", "heaviestSatisfiable", "cheapestHittingSet"));
            addIndexed(row, "weight", 0, MOST_CONSTRAINTS - 1);
        }
        row.addAll(row("step", "undo", "undo"));
        row.add(Call.of("setStrategy", 0));
        return row;
    }

    private static List<Call> slot(int slot) {
        List<Call> row = new ArrayList<>();
        row.add(Call.of("restore", slot));
        row.addAll(state());
        row.addAll(row("undo", "clearText"));
        return row;
    }

    private static List<Call> enumeration() {
        List<Call> row = row("step", "seed", "finish");
        row.addAll(state());
        return row;
    }
}
