import java.lang.reflect.InvocationTargetException;
import java.lang.reflect.Method;
import java.util.regex.Matcher;
import java.util.regex.Pattern;

/**
 * Plays calls on one object and compares the answers with those that are due. Calls are written as
 * in the document: "load() = 2; setWeight(0, 3) = 1".
 */
final class Script {
    private static final Pattern CALL = Pattern.compile("(\\w+)\\(([^)]*)\\)\\s*=\\s*(-?\\d+)");
    private static int wrong = 0;

    private final String name;
    private final ConflictEnumerator object = new ConflictEnumerator();

    private Script(String name) {
        this.name = name;
    }

    /** A script on a new object. */
    static Script of(String name) {
        return new Script(name);
    }

    /** Ends the test with exit code 1 if some answer was not due. */
    static void end() {
        if (wrong > 0) {
            System.out.println(wrong + " wrong answers");
            System.exit(1);
        }
    }

    static void expect(String what, long got, long want) {
        if (got != want) {
            wrong++;
            System.out.println(what + " answered " + got + ", due is " + want);
        }
    }

    /** Appends the characters to an empty text. */
    Script text(String characters) {
        for (int i = 0; i < characters.length(); i++) {
            int code = characters.charAt(i);
            expect(name + ": append(" + code + ")", object.append(code), i + 1);
        }
        return this;
    }

    /** Appends the characters to an empty text and loads them, which must answer as given. */
    Script load(String characters, int answer) {
        text(characters);
        expect(name + ": load() of \"" + characters + "\"", object.load(), answer);
        return this;
    }

    Script due(String calls) {
        Matcher matcher = CALL.matcher(calls);
        int end = 0;
        while (matcher.find()) {
            requireGap(calls.substring(end, matcher.start()));
            end = matcher.end();
            String call = matcher.group(1) + "(" + matcher.group(2) + ")";
            int want = Integer.parseInt(matcher.group(3));
            expect(name + ": " + call, call(matcher.group(1), matcher.group(2)), want);
        }
        requireGap(calls.substring(end));
        return this;
    }

    private static void requireGap(String gap) {
        if (!gap.isEmpty() && !gap.matches("[;.\\s]+")) {
            throw new IllegalArgumentException("not a call: " + gap);
        }
    }

    private int call(String method, String arguments) {
        String[] parts = arguments.isBlank() ? new String[0] : arguments.split(",");
        Class<?>[] types = new Class<?>[parts.length];
        Object[] values = new Object[parts.length];
        for (int i = 0; i < parts.length; i++) {
            types[i] = int.class;
            values[i] = Integer.parseInt(parts[i].trim());
        }
        try {
            Method found = ConflictEnumerator.class.getMethod(method, types);
            return (Integer) found.invoke(object, values);
        } catch (NoSuchMethodException | IllegalAccessException e) {
            throw new IllegalArgumentException("no such call: " + method, e);
        } catch (InvocationTargetException e) {
            throw new IllegalStateException(name + ": " + method + " threw", e.getCause());
        }
    }
}
