import java.io.IOException;
import java.lang.reflect.Constructor;
import java.lang.reflect.Field;
import java.lang.reflect.Method;
import java.lang.reflect.Modifier;
import java.nio.file.Files;
import java.nio.file.Path;
import java.util.ArrayList;
import java.util.Arrays;
import java.util.List;
import java.util.Set;
import java.util.regex.Matcher;
import java.util.regex.Pattern;

/**
 * Looks for what LANGUAGE.md rules out: in the source, whose path is the first argument, by a plain
 * search, and in the compiled classes by what they refer to.
 */
public final class LanguageTest {
    private static final Pattern COMMENT_OR_TEXT = Pattern.compile("(?s)/\\*.*?\\*/|//[^\\n]*|\"(?:\\\\.|[^\"\\\\])*\"");
    private static final String[] FORBIDDEN = {
        "throw", "throws", "try", "catch", "synchronized", "assert", "import", "package", "protected", "native", "volatile",
        "transient", "strictfp", "float", "double", "this::", "->", "::", "Object", "equals", "hashCode", "toString",
        "Random", "Thread", "currentTimeMillis", "nanoTime",
    };
    /** All that the class needs of what rule 4 lists; a nested class begins its constructor with Object's. */
    private static final Set<String> LIBRARY = Set.of("java/lang/Object.<init>", "java/lang/String.length",
        "java/lang/String.charAt", "java/lang/Integer.bitCount", "java/lang/Long.bitCount", "java/lang/System.arraycopy");
    private static final String OWN = "ConflictEnumerator";
    private static final int METHOD_LINES = 60;
    private static final int PARAMETERS = 7;
    private static final int FIELDS = 20;

    private static boolean failed = false;

    public static void main(String[] args) throws IOException {
        String source = Files.readString(Path.of(args[0]));
        String code = COMMENT_OR_TEXT.matcher(source).replaceAll("\"\"");
        for (String word : FORBIDDEN) {
            String pattern = Character.isLetter(word.charAt(0)) ? "\\b" + Pattern.quote(word) + "\\b" : Pattern.quote(word);
            refuse(Pattern.compile(pattern).matcher(code).find(), "the source has " + word);
        }
        refuse(!source.chars().allMatch(c -> c == '\n' || c >= 32 && c < 127), "the source has other signs than plain ones");
        methodLengths(source);
        List<Class<?>> classes = new ArrayList<>(Arrays.asList(ConflictEnumerator.class.getDeclaredClasses()));
        classes.add(ConflictEnumerator.class);
        for (Class<?> type : classes) {
            members(type);
            references(type);
        }
        if (failed) {
            System.exit(1);
        }
    }

    private static void refuse(boolean broken, String what) {
        if (broken) {
            failed = true;
            System.out.println("LANGUAGE.md is broken: " + what);
        }
    }

    /** A method begins at a line indented by four or eight that ends in "{" and ends at the brace below its first sign. */
    private static void methodLengths(String source) {
        Matcher methods = Pattern.compile("(?m)^( {4}| {8})(?! )[^\\n]*\\)\\s*\\{\\n(?s:(.*?))^\\1\\}").matcher(source);
        int seen = 0;
        while (methods.find()) {
            seen++;
            long lines = methods.group(2).chars().filter(c -> c == '\n').count();
            refuse(lines > METHOD_LINES, "a method of " + lines + " lines: " + methods.group().lines().findFirst().orElse(""));
        }
        refuse(seen < 40, "only " + seen + " methods were seen");
    }

    private static void members(Class<?> type) {
        refuse(type.getDeclaredClasses().length > 0 && type != ConflictEnumerator.class, type + " has classes inside");
        for (Method method : type.getDeclaredMethods()) {
            refuse(method.getParameterCount() > PARAMETERS, method + " takes too many parameters");
        }
        for (Constructor<?> constructor : type.getDeclaredConstructors()) {
            refuse(constructor.getParameterCount() > PARAMETERS, constructor + " takes too many parameters");
        }
        int fields = 0;
        for (Field field : type.getDeclaredFields()) {
            boolean isConstant = Modifier.isStatic(field.getModifiers());
            refuse(isConstant && !Modifier.isFinal(field.getModifiers()), field + " is static and not final");
            fields += isConstant ? 0 : 1;
        }
        refuse(fields > FIELDS, type + " has " + fields + " fields");
    }

    private static void references(Class<?> type) throws IOException {
        ConstantPool pool = ConstantPool.of(type);
        refuse(pool.hasDynamicCalls(), type + " has a lambda, a method reference or texts joined by +");
        refuse(pool.uses().isEmpty(), type + " seems to use nothing at all");
        for (String name : pool.uses()) {
            boolean isOwn = name.startsWith(OWN + ".") || name.startsWith(OWN + "$");
            refuse(!isOwn && !LIBRARY.contains(name), type + " uses " + name);
        }
    }
}
