import java.io.IOException;
import java.nio.file.Files;
import java.nio.file.Path;
import java.util.Set;
import java.util.regex.Matcher;
import java.util.regex.Pattern;

/**
 * Looks through the source for what LANGUAGE.md rules out and a plain search can find. The path of
 * the source is the first argument.
 */
public final class LanguageTest {
    private static final Pattern COMMENT_OR_TEXT = Pattern.compile("(?s)/\\*.*?\\*/|//[^\\n]*|\"(?:\\\\.|[^\"\\\\])*\"");
    private static final Pattern LIBRARY_CALL = Pattern.compile("\\b([A-Z][a-z]\\w*)\\.([a-z]\\w*)\\(");
    private static final Set<String> LIBRARY = Set.of("Integer.bitCount", "Long.bitCount", "System.arraycopy");
    private static final String[] FORBIDDEN = {
        "throw", "throws", "try", "catch", "synchronized", "assert", "import", "package", "protected", "native", "volatile",
        "transient", "strictfp", "float", "double", "this::", "->", "::", "Object", "equals", "hashCode", "toString",
        "Random", "Thread", "currentTimeMillis", "nanoTime",
    };
    private static final int METHOD_LINES = 60;

    private static boolean failed = false;

    public static void main(String[] args) throws IOException {
        String source = Files.readString(Path.of(args[0]));
        String code = COMMENT_OR_TEXT.matcher(source).replaceAll("\"\"");
        for (String word : FORBIDDEN) {
            String pattern = Character.isLetter(word.charAt(0)) ? "\\b" + Pattern.quote(word) + "\\b" : Pattern.quote(word);
            refuse(Pattern.compile(pattern).matcher(code).find(), "the source has " + word);
        }
        Matcher calls = LIBRARY_CALL.matcher(code);
        while (calls.find()) {
            String call = calls.group(1) + "." + calls.group(2);
            refuse(!LIBRARY.contains(call), "the source calls " + call);
        }
        refuse(!source.chars().allMatch(c -> c == '\n' || c >= 32 && c < 127), "the source has other signs than plain ones");
        methodLengths(source);
        if (failed) {
            System.exit(1);
        }
    }

    private static void refuse(boolean broken, String what) {
        if (broken) {
            failed = true;
            System.out.println("LANGUAGE.md is broken: " + what);
        }
    }

    /** A method begins at a line indented by four or eight that ends in "{" and ends at the brace below its first sign. */
    private static void methodLengths(String source) {
        Matcher methods = Pattern.compile("(?m)^( {4}| {8})(?! )[^\\n]*\\)\\s*\\{\\n(?s:(.*?))^\\1\\}").matcher(source);
        int seen = 0;
        while (methods.find()) {
            seen++;
            long lines = methods.group(2).chars().filter(c -> c == '\n').count();
            refuse(lines > METHOD_LINES, "a method of " + lines + " lines: " + methods.group().lines().findFirst().orElse(""));
        }
        refuse(seen < 40, "only " + seen + " methods were seen");
    }
}
