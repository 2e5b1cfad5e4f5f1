import java.lang.reflect.InvocationTargetException;
import java.lang.reflect.Method;
import java.util.ArrayList;
import java.util.Arrays;
import java.util.List;
import java.util.regex.Matcher;
import java.util.regex.Pattern;

/** One call of the public face, with the answer that is due if one was written behind it. */
final class Call {
    private static final Pattern WRITTEN = Pattern.compile("(\\w+)\\(([^)]*)\\)\\s*=\\s*(-?\\d+)");

    private final Method method;
    private final Object[] arguments;
    private final int due;

    private Call(String name, int[] arguments, int due) {
        Class<?>[] types = new Class<?>[arguments.length];
        Arrays.fill(types, int.class);
        try {
            this.method = ConflictEnumerator.class.getMethod(name, types);
        } catch (NoSuchMethodException e) {
            throw new IllegalArgumentException("no such call: " + name, e);
        }
        this.arguments = Arrays.stream(arguments).boxed().toArray();
        this.due = due;
    }

    /** A call whose answer is not known. */
    static Call of(String name, int... arguments) {
        return new Call(name, arguments, 0);
    }

    /** Reads calls as the document writes them: "load() = 2; setWeight(0, 3) = 1". */
    static List<Call> read(String written) {
        List<Call> calls = new ArrayList<>();
        Matcher matcher = WRITTEN.matcher(written);
        int end = 0;
        while (matcher.find()) {
            requireGap(written.substring(end, matcher.start()));
            end = matcher.end();
            calls.add(new Call(matcher.group(1), numbers(matcher.group(2)), Integer.parseInt(matcher.group(3))));
        }
        requireGap(written.substring(end));
        return calls;
    }

    private static int[] numbers(String list) {
        if (list.isBlank()) {
            return new int[0];
        }
        return Arrays.stream(list.split(",")).mapToInt(number -> Integer.parseInt(number.trim())).toArray();
    }

    private static void requireGap(String gap) {
        if (!gap.isEmpty() && !gap.matches("[;.\\s]+")) {
            throw new IllegalArgumentException("not a call: " + gap);
        }
    }

    int due() {
        return due;
    }

    int on(ConflictEnumerator object) {
        try {
            return (Integer) method.invoke(object, arguments);
        } catch (IllegalAccessException e) {
            throw new IllegalArgumentException("no such call: " + this, e);
        } catch (InvocationTargetException e) {
            throw new IllegalStateException(this + " threw", e.getCause());
        }
    }

    @Override
    public String toString() {
        String list = Arrays.toString(arguments);
        return method.getName() + "(" + list.substring(1, list.length() - 1) + ")";
    }
}
