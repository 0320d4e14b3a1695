import java.io.IOException;
import java.nio.file.Files;
import java.nio.file.Path;
import java.util.regex.Matcher;
import java.util.regex.Pattern;

/** Those rules of LANGUAGE.md that a look at the program's text can tell, and no more than they say. */
public final class LanguageTest {
    /** The rule, what it rules out, and the pattern that finds it. */
    private static final String[][] RULED_OUT = {
        {"rule 1", "a protected member", "\\bprotected\\b"},
        {"rule 2", "a lambda", "^(?!\\s*(case|default)\\b).*->"},
        {"rule 2", "a method reference", "::"},
        {"rule 4", "an import of what is not listed", "^import (?!java\\.util\\.(Arrays|ArrayList|List|Iterator);)"},
        {"rule 4", "a function that ends in Exact", "\\w+Exact\\b"},
        {"rule 4", "a part of System that is not listed", "\\bSystem\\.(?!arraycopy\\b)"},
        {"rule 4", "Math.random", "\\bMath\\.random\\b"},
        {"rule 4", "a part of String that is not listed", "\\bString\\.\\w+"},
        {"rule 5", "a static initialiser block", "\\bstatic\\s*\\{"},
        {"rule 6", "throw, try, catch, synchronized or assert", "\\b(throw|throws|try|catch|synchronized|assert)\\b"},
        {"rule 6", "hashCode", "\\bhashCode\\b"},
        {"rule 13", "a clock, a thread, a file or the environment", "\\b(Thread|Runtime|File|Files|Random|nanoTime|currentTimeMillis|getenv|getProperty)\\b"},
        {"its first sentence", "a package line", "^\\s*package\\b"},
    };
    private static final int MOST_CLASSES = 12, MOST_LINES = 60, MOST_PARAMETERS = 7;
    private static final Check check = new Check("LanguageTest");

    public static void main(String[] args) throws IOException {
        String text = Files.readString(Path.of("src/main/java/LevelEquations.java"));
        String code = withoutTexts(text);
        for (String[] rule : RULED_OUT) {
            check.part("LANGUAGE.md, " + rule[0] + " rules out: " + rule[1]);
            check.due("uses", uses(code, rule[2]), 0);
        }
        check.part("LANGUAGE.md, rule 4: constants have signs from 1 to 127");
        check.due("other signs", uses(text, "[^\\x01-\\x7f]"), 0);
        check.part("LANGUAGE.md, rule 11: at most some twelve classes");
        check.holds("the number of classes", uses(code, "\\b(class|record|enum|interface)\\s+\\w+") <= MOST_CLASSES);
        check.part("LANGUAGE.md, rule 11: methods are short and take at most seven parameters");
        methods(code);
        check.end();
    }

    /** The program without its comments, and with empty texts and signs. */
    private static String withoutTexts(String text) {
        return text.replaceAll("(?s)/\\*.*?\\*/", "").replaceAll("//[^\n]*", "").replaceAll("\"[^\"\n]*\"", "\"\"").replaceAll("'[^'\n]+'", "' '");
    }

    private static int uses(String code, String pattern) {
        Matcher matcher = Pattern.compile(pattern, Pattern.MULTILINE).matcher(code);
        int found = 0;
        while (matcher.find()) {
            found++;
        }
        return found;
    }

    /** From a line that opens a method to the line that closes it, by their indents. */
    private static void methods(String code) {
        String[] lines = code.split("\n");
        Pattern opening = Pattern.compile("^(\\s++)(?!(if|for|while|switch|else|do|return)\\b)[\\w\\[\\]<>, ]+\\(([^()]*)\\) \\{$");
        for (int t = 0; t < lines.length; t++) {
            Matcher opened = opening.matcher(lines[t]);
            if (opened.find()) {
                int end = t;
                while (end < lines.length && !lines[end].equals(opened.group(1) + "}")) {
                    end++;
                }
                check.holds(lines[t].trim() + " is short", end - t <= MOST_LINES);
                check.holds(lines[t].trim() + " takes few parameters", opened.group(3).split(",").length <= MOST_PARAMETERS);
            }
        }
    }
}
