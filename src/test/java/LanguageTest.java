import java.io.IOException;
import java.nio.file.Files;
import java.nio.file.Path;
import java.util.regex.Matcher;
import java.util.regex.Pattern;

/** Some of the rules of LANGUAGE.md, looked up in the program's text, and that no call makes an object. */
public final class LanguageTest {
    private static final String[] FORBIDDEN = {
        "throw", "try", "catch", "synchronized", "assert", "package", "static \\{", "->", "::", "Exact", "String\\.format", "System\\.out",
        "import (?!java\\.util\\.(Arrays|ArrayList|List);)", "System\\.(?!arraycopy)", "Math\\.random", "nanoTime", "currentTime", "Thread",
        "double", "float", "hashCode", "toString", "\\.equals\\(", "StringBuilder", "protected", "volatile", "transient", "native",
    };
    private static final Check check = new Check("LanguageTest");

    public static void main(String[] args) throws IOException {
        check.part("LANGUAGE.md");
        String text = Files.readString(Path.of("src/main/java/LevelEquations.java"));
        String code = text.replaceAll("(?s)/\\*.*?\\*/", "").replaceAll("//[^\n]*", "");
        for (String word : FORBIDDEN) {
            String pattern = Character.isLetter(word.charAt(0)) ? "\\b" + word : word;
            check.due("uses of " + word, uses(code, pattern), 0);
        }
        check.holds("at most 12 classes", uses(code, "\\bclass ") <= 12);
        check.due("objects are made in fields and constructors only", uses(code, "\\bnew "), uses(code, "(?m)^    (    )?(private )?(static )?final [^;=]*= new |^ {16}(series|kept)\\[\\w\\] = new "));
        for (int t = 0; t < text.length(); t++) {
            if (text.charAt(t) > 127) {
                check.due("sign at " + t, text.charAt(t), ' ');
            }
        }
        methodLengths(code);
        check.end();
    }

    private static int uses(String code, String pattern) {
        Matcher matcher = Pattern.compile(pattern).matcher(code);
        int found = 0;
        while (matcher.find()) {
            found++;
        }
        return found;
    }

    /** From a line that opens a method to the line that closes it, by their indents. */
    private static void methodLengths(String code) {
        String[] lines = code.split("\n");
        for (int t = 0; t < lines.length; t++) {
            Matcher opened = Pattern.compile("^( {8}| {4})(?! )[\\w\\[\\] ]+\\([\\w\\[\\], ]*\\) \\{$").matcher(lines[t]);
            if (!opened.find()) {
                continue;
            }
            int end = t;
            while (!lines[end].equals(opened.group(1) + "}")) {
                end++;
            }
            check.holds(lines[t].trim() + " is short", end - t < 60);
            check.holds(lines[t].trim() + " takes few parameters", lines[t].split(",").length <= 7);
        }
    }
}
