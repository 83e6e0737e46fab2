import java.io.IOException;
import java.nio.file.Files;
import java.nio.file.Path;
import java.util.List;
import java.util.regex.Matcher;
import java.util.regex.Pattern;

/** Some of LANGUAGE.md's rules, as far as the text of the program shows them; runs in the project's folder. */
public final class LanguageTest {
    private static final String[] FORBIDDEN = {
        "->", "::", "\\bcatch\\b", "\\btry\\b", "\\bfinally\\b", "\\bsynchronized\\b", "\\bassert\\b", "\\bpackage\\b",
        "static \\{", "\\bjava\\.util\\.(?!Arrays\\b|ArrayList\\b|List\\b)", "\\w+Exact\\(",
        "\\bObject\\b", "\\bvar\\b", "\\bprotected\\b", "import static", "\\bSystem\\.(?!arraycopy\\b)", "\\bThread\\b",
        "\\bhashCode\\b", "\\btoString\\b", "\\bequals\\b"};

    // Group 2 has the parameters, group 3 the lines up to the brace that stands below the method's first sign.
    private static final Pattern METHOD = Pattern.compile(
            "^( +)(?!return|new|else|throw)(?:[\\w\\[\\]]+ )*\\w+\\(([^()]*)\\)\\s*(?:throws [^{]*)?"
            + "\\{\n(.*?)^\\1\\}", Pattern.MULTILINE | Pattern.DOTALL);
    private static final List<String> LIBRARY = List.of(
            "Math.max", "Math.min", "Long.bitCount", "Long.numberOfTrailingZeros", "Arrays.fill", "System.arraycopy");
    private static final List<String> MADE = List.of(
            "int", "long", "State", "MarkSet", "UndoStack", "Gaps", "BitRow", "Spans", "Tally", "Units");

    public static void main(String[] args) throws IOException {
        String text = Files.readString(Path.of("src/main/java/RulerWorkbench.java"));
        for (String forbidden : FORBIDDEN) {
            Check.no("found " + forbidden, Pattern.compile(forbidden).matcher(text).find());
        }
        Matcher thrown = Pattern.compile("throw [^;]*;").matcher(text);
        while (thrown.find()) {
            Check.yes(thrown.group(), thrown.group().matches("throw new Illegal(State|Argument)Exception\\(\"[^\"]*\"\\);"
                    + "|throw new IndexOutOfBoundsException\\(\"[^\"]*\"\\);"));
        }
        for (int i = 0; i < text.length(); i++) {
            if (text.charAt(i) > 126) {
                Check.yes("a sign above 126 at " + i, false);
            }
        }
        // Division by what is not a written number stands in residue and quotient alone, behind their tests.
        Matcher divided = Pattern.compile("[^/*] [/%] ([a-z]\\w*)").matcher(text);
        int divisions = 0;
        while (divided.find()) {
            divisions++;
        }
        Check.same("divisions by a variable", divisions, 2);
        library(text);
        sizes(text);
        Check.end("LanguageTest");
    }

    /** Rules 4 and 12: what is called from the library, and which objects are made outside constructors. */
    private static void library(String text) {
        Matcher called = Pattern.compile("\\b(Math|Long|Integer|Arrays|System|String|List)\\.(\\w+)").matcher(text);
        while (called.find()) {
            Check.yes("library: " + called.group(), LIBRARY.contains(called.group()));
        }
        Matcher imported = Pattern.compile("^import (.*);", Pattern.MULTILINE).matcher(text);
        while (imported.find()) {
            Check.text("import", imported.group(1), "java.util.Arrays");
        }
        Matcher made = Pattern.compile("new (\\w+)").matcher(text);
        while (made.find()) {
            Check.yes("new " + made.group(1), MADE.contains(made.group(1)) || made.group(1).endsWith("Exception"));
        }
    }

    /** Rule 11: at most seven parameters, some sixty lines a method, twelve classes, twenty fields a class. */
    private static void sizes(String text) {
        Matcher method = METHOD.matcher(text);
        int methods = 0;
        while (method.find()) {
            methods++;
            String head = method.group().split("\n")[0];
            Check.yes("parameters of " + head, method.group(2).split(",").length <= 7);
            Check.yes("lines of " + head, method.group(3).split("\n").length <= 60);
        }
        Check.yes("methods that are looked at: " + methods, methods > 80);
        String[] classes = text.split("\\bclass ");
        Check.yes("classes: " + (classes.length - 1), classes.length - 1 <= 12);
        for (String body : classes) {
            int fields = 0;
            Matcher field = Pattern.compile("^ +private (?!static)[^(]*?(;| = )", Pattern.MULTILINE).matcher(body);
            while (field.find()) {
                fields++;
            }
            Check.yes("fields: " + fields, fields <= 20);
        }
    }
}
