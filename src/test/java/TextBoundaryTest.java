/**
 * The text, its tokens and its grammar at every limit that the document names. A test's name is the
 * sentence that it tests, or what the sentence is about.
 */
public final class TextBoundaryTest {
    private static final int LEAST = Integer.MIN_VALUE;
    private static final int GREATEST = Integer.MAX_VALUE;
    private static final String[] WORDS = {
        "or", "xor", "most", "hard", "w", "o", "r", "x", "xo", "mos", "har", "orr", "oor", "xorx", "mostt", "hards", "ww", "wor",
        "hardor", "orw", "mosthard", "a", "z", "abcdefghijklmnopqrstuvwxyz",
    };

    public static void main(String[] args) {
        characterCodes();
        textLimit();
        refusedAtTheLimit();
        fullTextIsRead();
        clearText();
        emptyText();
        numberOfConstraints();
        eleventhConstraint();
        numberOfLiterals();
        bound();
        weight();
        hardHasNoWeight();
        variable();
        repeatedVariable();
        minusBehindSixVariables();
        everyCharacterAtEveryPlace();
        everyWordAtEveryPlace();
        everyCharacterWithoutSpaces();
        runsOfLetters();
        digitsAreTokens();
        spaces();
        endInsideAConstraint();
        firstErrorAlone();
        successfulLoad();
        failedLoad();
        Script.end();
    }

    /** The text is read as so many constraints, and is then gone. */
    private static Script valid(String sentence, String text, int constraints) {
        return Script.loaded(sentence, text, constraints).due("constraintCount() = " + constraints + "; undoDepth() = 1; "
            + "clearText() = 0");
    }

    /** The text is refused at the position, and is kept. */
    private static void wrong(String sentence, String text, int position) {
        Script.of(sentence).wrongAt(text, position).due("constraintCount() = 0; undoDepth() = 0; clearText() = " + text.length()
            + "; load() = 0");
    }

    private static void characterCodes() {
        Script.of("character code, 0 to 255").invalid("append", -1, 256, -2, 257, LEAST, GREATEST).due("append(0) = 1; "
            + "append(1) = 2; append(254) = 3; append(255) = 4").invalid("append", -1, 256).due("clearText() = 4");
        // 256 + 59 would be a ";" if only the low eight bits were kept.
        Script.of("character code, not cut to eight bits").text("or1").invalid("append", 256 + 59, 59 - 256, 65536 + 59)
            .due("load() = -13");
    }

    private static void textLimit() {
        String sentence = "A system is read from a text of at most 120 characters";
        Script.of(sentence).text(" ".repeat(118)).due("append(32) = 119; append(32) = 120").unchanged("append(32) = -3; "
            + "append(59) = -3; append(0) = -3; append(255) = -3").due("clearText() = 120; append(32) = 1; clearText() = 1");
        Script.of("If several error conditions apply: append").text(" ".repeat(120)).invalid("append", -1, 256, LEAST, GREATEST)
            .due("append(255) = -3");
    }

    private static void refusedAtTheLimit() {
        Script.of("a refused character is not kept").text(" ".repeat(119)).due("append(120) = 120; append(32) = -3; "
            + "load() = -129");
        Script.of("a refused ; does not end the constraint").text("or1" + " ".repeat(117)).due("append(59) = -3; load() = -130; "
            + "clearText() = 120");
        Script.of("a load makes room").text(" ".repeat(120)).due("append(32) = -3; load() = 0; append(32) = 1");
        Script.of("a failed load makes no room").text("x" + " ".repeat(119)).due("load() = -10; append(32) = -3; "
            + "clearText() = 120; append(32) = 1");
    }

    private static void fullTextIsRead() {
        String twelve = "or-1-2-3 w9;";
        valid("a valid text of 120 characters", twelve.repeat(10), 10).due("weight(9) = 9; violated(7) = 1023; violated(6) = 0");
        valid("a valid text of 119 characters", twelve.repeat(9) + "or-1-2-3w9;", 10).due("weight(9) = 9");
        valid("the last character of 120 ends a constraint", " ".repeat(116) + "or1;", 1).due("violated(0) = 1");
        wrong("the last character of 120 is wrong", " ".repeat(116) + "or1x", 119);
        wrong("the last character of 120 is the only token", " ".repeat(119) + ";", 119);
        wrong("the first character of 120 is wrong", ";" + " ".repeat(119), 0);
        wrong("one word of 120 characters", "o".repeat(120), 0);
        wrong("a word at the end of 120 characters", " ".repeat(118) + "or", 120);
    }

    private static void clearText() {
        Script.of("Returns the previous length of the text").due("clearText() = 0; clearText() = 0; append(59) = 1; "
            + "clearText() = 1; clearText() = 0").text("x".repeat(119)).due("clearText() = 119").text("x".repeat(120))
            .due("clearText() = 120; clearText() = 0; load() = 0");
        Script.of("clearText on an empty text changes nothing").unchanged("clearText() = 0");
        Script.loaded("clearText changes no state", "or1;or-1;", 2).due("step() = 2; save(0) = 2").text("or")
            .due("clearText() = 2; musCount() = 1; undoDepth() = 2; constraintCount() = 2; restore(0) = 2; restore(1) = -2");
    }

    private static void emptyText() {
        String sentence = "An empty text is a system without constraints.";
        valid(sentence, "", 0).due("softConstraints() = 0; unexploredCount() = 1; seed() = 0; undo() = 0");
        valid(sentence + " (one space)", " ", 0);
        valid(sentence + " (120 spaces)", " ".repeat(120), 0);
        Script.loaded(sentence, "or1;hard or2;", 2).due("finish() = 1; save(0) = 2; save(1) = 2; load() = 0; "
            + "constraintCount() = 0; softConstraints() = 0; mssCount() = 0; musCount() = 0; restore(0) = -2; restore(1) = -2; "
            + "undoDepth() = 3; undo() = 2; constraintCount() = 2; mssCount() = 1");
    }

    private static void numberOfConstraints() {
        for (int count = 0; count <= 10; count++) {
            valid("A system has 0 to 10 constraints", "or1;".repeat(count), count).due("softConstraints() = "
                + ((1 << count) - 1));
            valid("A system has 0 to 10 constraints (all hard)", "hard or1;".repeat(count), count).due("softConstraints() = 0");
        }
        valid("ten constraints, then spaces", "or1;".repeat(10) + "   ", 10);
        wrong("the tenth constraint has no end", "or1;".repeat(9) + "or1", 39);
        wrong("the tenth constraint is wrong", "or1;".repeat(9) + "or7;", 38);
        wrong("an error before the eleventh constraint", "or1;".repeat(4) + "or7;" + "or1;".repeat(6), 18);
    }

    private static void eleventhConstraint() {
        String sentence = "the first token of an eleventh constraint";
        String ten = "or1;".repeat(10);
        String[] beginnings = {"or1;", "xor1;", "most1 1;", "hard or1;", "hard", "or", "x", "w", "-", ";", "1", "0", "A", "\t"};
        for (String more : beginnings) {
            wrong(sentence, ten + more, 40);
            wrong(sentence + ", behind a space", ten + " " + more, 41);
            wrong(sentence + ", behind spaces", ten + "  " + more + "  ", 42);
        }
        wrong(sentence + ", ten hard ones before", "hard or1;".repeat(10) + "or1;", 90);
    }

    private static void numberOfLiterals() {
        String sentence = "Each constraint has one to six literals";
        String[] heads = {"or", "xor", "most0", "most6", "hard or", "hard xor", "hard most0"};
        for (String head : heads) {
            wrong(sentence + ": none", head + ";", head.length());
            for (int count = 1; count <= 6; count++) {
                valid(sentence + ": " + count, head + "123456".substring(0, count) + ";", 1);
                valid(sentence + ": " + count, head + "-1-2-3-4-5-6".substring(0, 2 * count) + ";", 1);
            }
            for (int digit = 0; digit <= 9; digit++) {
                wrong(sentence + ": a seventh", head + "123456" + digit + ";", head.length() + 6);
                wrong(sentence + ": a seventh", head + "-6-5-4-3-2-1" + digit + ";", head.length() + 12);
            }
        }
        wrong(sentence + ": none, but a weight", "or w1;", 3);
        wrong(sentence + ": the digit is the bound", "most 1;", 6);
    }

    private static void bound() {
        String sentence = "The digit after \"most\" is the bound k and must be 0 to 6.";
        for (int digit = 0; digit <= 6; digit++) {
            valid(sentence, "most" + digit + "1;", 1).due("violated(1) = " + (digit == 0 ? 1 : 0));
            valid(sentence, "hard most " + digit + " 1;", 1);
        }
        for (int digit = 7; digit <= 9; digit++) {
            wrong(sentence, "most" + digit + "1;", 4);
            wrong(sentence, "hard most " + digit + " 1;", 10);
        }
        wrong(sentence + " (negative)", "most-1 1;", 4);
        wrong(sentence + " (absent)", "most;", 4);
        wrong(sentence + " (two digits)", "most10;", 5);
        wrong("only \"most\" has a bound", "or0 1;", 2);
    }

    private static void weight() {
        String sentence = "The digit after \"w\" is the weight and must be 1 to 9";
        for (int digit = 1; digit <= 9; digit++) {
            for (String body : new String[] {"or1", "xor-2", "most3 1 2"}) {
                valid(sentence, body + "w" + digit + ";", 1).due("weight(0) = " + digit);
                wrong(sentence + " (two digits)", body + "w" + digit + "0;", body.length() + 2);
                wrong(sentence + " (two weights)", body + "w" + digit + "w" + digit + ";", body.length() + 2);
                wrong("a literal behind the weight", body + "w" + digit + " 6;", body.length() + 3);
                wrong("a negated literal behind the weight", body + "w" + digit + "-6;", body.length() + 2);
            }
        }
        wrong(sentence, "or1w0;", 4);
        wrong(sentence + " (negative)", "or1w-1;", 4);
        wrong(sentence + " (absent)", "or1w;", 4);
        valid("the weight is 1 if \"w\" is absent", "or1w9;or1;or1w2;most11;", 4).due("weight(0) = 9; weight(1) = 1; "
            + "weight(2) = 2; weight(3) = 1");
    }

    private static void hardHasNoWeight() {
        wrong("a hard constraint has no \"w\"", "hard or1w1;", 8);
        wrong("a hard constraint has no \"w\"", "or1w2;hard xor2 w3;", 16);
        wrong("a hard constraint is not hard twice", "hard hard or1;", 5);
        wrong("\"hard\" stands before the body", "or1 hard;", 4);
        wrong("\"hard\" needs a body", "hard;", 4);
        valid("a soft constraint may follow a hard one", "hard or1;or2w3;hard or3;or4;", 4).due("weight(0) = 0; weight(1) = 3; "
            + "weight(2) = 0; weight(3) = 1; softConstraints() = 10");
    }

    private static void variable() {
        String sentence = "The digit of a literal is its variable and must be 1 to 6";
        for (int digit = 1; digit <= 6; digit++) {
            int alone = 1 << digit - 1;
            valid(sentence, "or" + digit + ";", 1).due("firstModel(1) = " + alone + "; violated(" + alone + ") = 0; violated("
                + (63 - alone) + ") = 1");
            valid("a \"-\" negates it", "or-" + digit + ";", 1).due("firstModel(1) = 0; violated(" + alone + ") = 1; violated("
                + (63 - alone) + ") = 0");
        }
        for (int digit : new int[] {0, 7, 8, 9}) {
            wrong(sentence, "or" + digit + ";", 2);
            wrong(sentence, "or-" + digit + ";", 3);
            wrong(sentence, "xor1" + digit + ";", 4);
            wrong(sentence, "most0 1 - " + digit + ";", 10);
        }
        wrong("one \"-\" alone negates", "or--1;", 3);
        wrong("a \"-\" without a digit", "or1-;", 4);
    }

    private static void repeatedVariable() {
        String sentence = "A variable must not occur twice in one constraint.";
        for (int digit = 1; digit <= 6; digit++) {
            wrong(sentence, "or" + digit + digit + ";", 3);
            wrong(sentence, "or-" + digit + digit + ";", 4);
            wrong(sentence, "xor" + digit + "-" + digit + ";", 5);
            wrong(sentence, "hard xor-" + digit + "-" + digit + ";", 11);
            int other = digit % 6 + 1;
            wrong(sentence, "most0" + digit + other + digit + ";", 7);
            valid("a variable may occur in two constraints", "or" + digit + ";or-" + digit + other + ";", 2);
        }
        wrong(sentence + " (the first of six)", "or1234561;", 8);
        wrong(sentence + " (the last of six)", "or1234566;", 8);
        valid("a bound and a weight are no variables", "most1 1w1;", 1);
    }

    private static void minusBehindSixVariables() {
        String sentence = "A \"-\" may follow a literal even if all six variables of the constraint are used up";
        for (int digit = 0; digit <= 9; digit++) {
            wrong(sentence, "or123456-" + digit + ";", 9);
            wrong(sentence + " (spaces)", "or123456 - " + digit + ";", 11);
            wrong("a digit without \"-\" behind six variables", "or123456" + digit + ";", 8);
        }
        wrong(sentence + " (the end)", "or123456-", 9);
        wrong(sentence + " (the end behind spaces)", "or123456-  ", 11);
        wrong(sentence + " (no digit)", "or123456-;", 9);
        wrong(sentence + " (two of them)", "or123456--", 9);
        wrong(sentence + " (hard)", "hard xor123456-1;", 15);
        valid("a weight may follow six variables", "or123456w2;", 1).due("weight(0) = 2");
    }

    /** Beginnings of a text, and the single characters that may stand behind each of them. */
    private static final String[][] PLACES = {
        {"", ""}, {"or1; ", ""}, {"hard ", ""}, {"most ", "0123456"}, {"hard most ", "0123456"}, {"or ", "-123456"}, {"xor ", "-123456"},
        {"most0 ", "-123456"}, {"hard or ", "-123456"}, {"or - ", "123456"}, {"or 2 ", "-13456w;"}, {"or -2 ", "-13456w;"},
        {"or 2 4 - ", "1356"}, {"hard or 2 ", "-13456;"}, {"or 123456 ", "-w;"}, {"hard or 123456 ", "-;"}, {"or 123456 - ", ""},
        {"or 2 w ", "123456789"}, {"or 2 w 3 ", ";"}, {"or1;or1;or1;or1;or1;or1;or1;or1;or1;or1; ", ""},
        {"or1;or1;or1;or1;or1;or1;or1;or1;or1;or1 ", "-23456w;"},
    };

    private static void everyCharacterAtEveryPlace() {
        for (String[] place : PLACES) {
            for (char character = 0; character <= 255; character++) {
                goOn(place[0], String.valueOf(character), character == ' ' || place[1].indexOf(character) >= 0);
            }
        }
    }

    /** What may stand there is read; then the text is whole or ends inside. All else is the error. */
    private static void goOn(String beginning, String token, boolean allowed) {
        String text = beginning + token;
        boolean whole = token.equals(";") || token.equals(" ") && (beginning.isEmpty() || beginning.endsWith("; "));
        if (allowed && whole) {
            valid("the text goes on: " + text, text, (int) text.chars().filter(c -> c == ';').count());
        } else {
            wrong("the text goes on: " + text, text, allowed ? text.length() : beginning.length());
        }
    }

    private static void everyWordAtEveryPlace() {
        for (String[] place : PLACES) {
            for (String word : WORDS) {
                goOn(place[0], word, mayStandBehind(place, word));
            }
        }
    }

    private static boolean mayStandBehind(String[] place, String word) {
        boolean kind = word.equals("or") || word.equals("xor") || word.equals("most");
        return switch (place[0]) {
            case "", "or1; " -> kind || word.equals("hard");
            case "hard " -> kind;
            default -> word.equals("w") && place[1].indexOf('w') >= 0;
        };
    }

    /** A character that stands close to a word and a digit: letters join the word before them. */
    private static void everyCharacterWithoutSpaces() {
        for (char character = 0; character <= 255; character++) {
            String behindWord = "or" + character + "1;";
            if (" -23456".indexOf(character) >= 0) {
                valid("close to a word", behindWord, 1);
            } else if (character == '1') {
                wrong("close to a word", behindWord, 3);
            } else {
                wrong("close to a word", behindWord, character >= 'a' && character <= 'z' ? 0 : 2);
            }
            String behindDigit = "or1" + character + "3;";
            if (" -2456w".indexOf(character) >= 0) {
                valid("close to a digit", behindDigit, 1).due("weight(0) = " + (character == 'w' ? 3 : 1));
            } else {
                wrong("close to a digit", behindDigit, character == '3' || character == ';' ? 4 : 3);
            }
        }
    }

    private static void runsOfLetters() {
        String sentence = "a maximal run of the letters a to z is one token";
        wrong(sentence, "hardor1;", 0);
        wrong(sentence, "or1;orw1;", 4);
        wrong(sentence, "or1wor2;", 3);
        wrong(sentence, "or1ww1;", 3);
        wrong(sentence, "or1w w1;", 5);
        wrong(sentence, "or1;hardhard or1;", 4);
        wrong(sentence + ", the sign before a", "or`1;", 2);
        wrong(sentence + ", the sign before a", "`or1;", 0);
        wrong(sentence + ", the sign behind z", "or{1;", 2);
        wrong(sentence + ", the sign behind z", "or1w{", 4);
        wrong(sentence + ", capitals are none", "Or1;", 0);
        wrong(sentence + ", capitals are none", "orR1;", 2);
        wrong(sentence + ", capitals are none", "or1W2;", 3);
        wrong(sentence + ", others are none", "or" + (char) 233 + "1;", 2);
        wrong("a space parts a word", "o r1;", 0);
        wrong("a space parts a word", "or1;ha rd or1;", 4);
        wrong("a space parts a word", "x or1;", 0);
    }

    private static void digitsAreTokens() {
        String sentence = "each digit is a token of its own";
        valid(sentence, "or12;", 1).due("modelCount(1) = 48; violated(0) = 1; violated(1) = 0; violated(2) = 0");
        valid(sentence, "most12;", 1).due("modelCount(1) = 64");
        valid(sentence, "most012;", 1).due("modelCount(1) = 16; firstModel(1) = 0; violated(1) = 1; violated(2) = 1");
        valid(sentence, "most6123456w9;", 1).due("modelCount(1) = 64; weight(0) = 9");
        wrong(sentence, "or1w23;", 5);
        wrong(sentence + ", the sign before 0", "or/1;", 2);
        wrong(sentence + ", the sign behind 9", "or1w:", 4);
    }

    private static void spaces() {
        String sentence = "Spaces (code 32) may stand before, between and after tokens and are otherwise ignored.";
        for (String text : new String[] {
            "hard most1-1 2;xor3-4w5;", "  hard  most  1  -  1  2  ;  xor  3  -  4  w  5  ;  ", "hard most1-12;xor3-4w5;    ",
            "    hard most1-12;xor3-4w5;",
            "hard most1-12;    xor3-4w5;",
        }) {
            valid(sentence, text, 2).due("softConstraints() = 2; weight(1) = 5; violated(0) = 0; violated(2) = 1; "
                + "violated(4) = 2; violated(10) = 3");
        }
        for (char sign : new char[] {0, 9, 10, 11, 12, 13, 31, 33, 127, 128, 160, 255}) {
            wrong("no other sign is a space", "or" + sign + "1;", 2);
            wrong("no other sign is a space", "or1;" + sign, 4);
            wrong("no other sign is a space", " " + sign + "or1;", 1);
        }
    }

    private static void endInsideAConstraint() {
        String sentence = "If the text ends inside a constraint, the error position is the length of the text.";
        for (String text : new String[] {
            "hard", "hard or", "hard or1", "hard or1 -", "or", "xor", "most", "most0", "most6", "or-", "or1", "or1-", "or1 2",
            "or1w", "or1w1", "or123456",
            "or123456-", "or1;or", "or1;or2;hard", "or1;most", "or1;or1;or1;or1;or1;or1;or1;or1;or1;or",
        }) {
            wrong(sentence, text, text.length());
            wrong(sentence + " (a space)", text + " ", text.length() + 1);
            wrong(sentence + " (up to the limit)", text + " ".repeat(120 - text.length()), 120);
            wrong(sentence + " (all but one)", " ".repeat(119 - text.length()) + text, 119);
        }
        wrong("a text that ends inside a word", "o", 0);
        wrong("a text that ends inside a word", "or1;har", 4);
        valid("a text that ends behind a constraint", "or1;", 1);
    }

    private static void firstErrorAlone() {
        String sentence = "the first token that cannot continue a valid system";
        wrong(sentence, "or7 x;", 2);
        wrong(sentence, "x or7", 0);
        wrong(sentence, "   ?", 3);
        wrong(sentence, "or1;;;", 4);
        wrong(sentence, "or1 1 7 x", 4);
        wrong(sentence, "most7", 4);
        wrong(sentence, "or1 xyz", 4);
        wrong(sentence, "1", 0);
        wrong(sentence, "-", 0);
        wrong(sentence, "w", 0);
    }

    private static void successfulLoad() {
        Script.loaded("Both lists, both snapshot slots and the text become empty. The strategy does not change.", "or1;or-1;or2;", 3)
            .due("setStrategy(1) = 0; finish() = 3; musCount() = 1; mssCount() = 2; save(0) = 3; save(1) = 3")
            .load("hard or3;or4w2;", 2).due("clearText() = 0; musCount() = 0; mssCount() = 0; mus(0) = -9; mss(0) = -9; "
            + "unexploredCount() = 2; restore(0) = -2; restore(1) = -2; setStrategy(1) = -2; weight(0) = 0; weight(1) = 2; "
            + "weight(2) = -1; softConstraints() = 2; violated(0) = 3");
        Script.loaded("a load replaces all constraints", "or1;".repeat(10), 10).load("or2w5;", 1).due("constraintCount() = 1; "
            + "softConstraints() = 1; weight(1) = -1; weight(0) = 5; violated(0) = 1; violated(2) = 0; undoDepth() = 2");
    }

    private static void failedLoad() {
        String sentence = "the text is kept then";
        Script script = Script.loaded("A call that returns an error code changes nothing: load", "or1;or-1;or2w3;hard or3;", 4)
            .due("setStrategy(1) = 0; step() = 1; save(1) = 4; step() = 1");
        script.text("or1;or2").unchanged("load() = -17; load() = -17").due("append(49) = 8").unchanged("load() = -18")
            .due("append(50) = 9").unchanged("load() = -18").due("clearText() = 9");
        Script.of(sentence).wrongAt("or1", 3).due("load() = -13; append(59) = 4; load() = 1; load() = 0");
        Script.of(sentence).wrongAt("or", 2).due("append(119) = 3; load() = -10; clearText() = 3; load() = 0");
        Script.loaded("a failed load after ten constraints were read", "or2;", 1).wrongAt("or1;".repeat(11), 40)
            .due("constraintCount() = 1; violated(1) = 1; violated(2) = 0; clearText() = 44; constraintCount() = 1");
    }
}
