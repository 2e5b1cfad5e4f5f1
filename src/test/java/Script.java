import java.util.ArrayList;
import java.util.List;

/**
 * Plays calls on one object and compares the answers with those that are due. Calls are written as
 * in the document: "load() = 2; setWeight(0, 3) = 1".
 */
final class Script {
    /** What later calls answer is free. */
    private static final int CALL_LIMIT = 512;
    private static int wrong = 0;

    private final String name;
    private final ConflictEnumerator object = new ConflictEnumerator();
    private final List<Call> played = new ArrayList<>();

    private Script(String name) {
        this.name = name;
    }

    /** A script on a new object. */
    static Script of(String name) {
        return new Script(name);
    }

    /** A script on a new object that has loaded a system, which must answer as given. */
    static Script loaded(String name, String system, int answer) {
        return of(name).load(system, answer);
    }

    /** Ends the test with exit code 1 if some answer was not due. */
    static void end() {
        if (wrong > 0) {
            System.out.println(wrong + " wrong answers");
            System.exit(1);
        }
    }

    private static void expect(String what, long got, long want) {
        if (got != want) {
            wrong++;
            System.out.println(what + " answered " + got + ", due is " + want);
        }
    }

    /** Appends the characters to an empty text. */
    Script text(String characters) {
        for (int i = 0; i < characters.length(); i++) {
            Call call = Call.of("append", characters.charAt(i));
            expect(name + ": " + call, play(call), i + 1);
        }
        return this;
    }

    /** Appends the characters to an empty text and loads them, which must answer as given. */
    Script load(String characters, int answer) {
        text(characters);
        expect(name + ": load() of \"" + characters + "\"", play(Call.of("load")), answer);
        return this;
    }

    /** Appends the characters to an empty text, which must then be wrong at the position. */
    Script wrongAt(String characters, int position) {
        return load(characters, -10 - position);
    }

    Script due(String calls) {
        for (Call call : Call.read(calls)) {
            expect(name + ": " + call, play(call), call.due());
        }
        return this;
    }

    /** Plays calls none of which may change anything that can be seen of the object. */
    Script unchanged(String calls) {
        for (Call call : Call.read(calls)) {
            compareWithTwin(call);
            expect(name + ": " + call, play(call), call.due());
        }
        return this;
    }

    /** Calls a method of one argument with each wrong argument; nothing may change. */
    Script invalid(String method, int... arguments) {
        for (int argument : arguments) {
            unchanged(method + "(" + argument + ") = -1");
        }
        return this;
    }

    private int play(Call call) {
        if (played.size() >= CALL_LIMIT) {
            throw new IllegalStateException(name + ": more calls than the document speaks of");
        }
        played.add(call);
        return call.on(object);
    }

    /** Two objects with the same past, of which one hears the call too, must look alike to every probe. */
    private void compareWithTwin(Call call) {
        List<Call> longer = new ArrayList<>(played);
        longer.add(call);
        for (List<Call> probe : Probe.ALL) {
            if (longer.size() + probe.size() > CALL_LIMIT) {
                throw new IllegalStateException(name + ": too long for a probe");
            }
            List<Integer> without = answers(played, probe);
            List<Integer> with = answers(longer, probe);
            boolean alike = true;
            for (int i = 0; i < probe.size() && alike; i++) {
                expect(name + ": after " + call + " " + probe.get(i), with.get(i), without.get(i));
                alike = with.get(i).equals(without.get(i));
            }
        }
    }

    private static List<Integer> answers(List<Call> past, List<Call> probe) {
        ConflictEnumerator twin = new ConflictEnumerator();
        for (Call call : past) {
            call.on(twin);
        }
        List<Integer> answers = new ArrayList<>();
        for (Call call : probe) {
            answers.add(call.on(twin));
        }
        return answers;
    }
}
