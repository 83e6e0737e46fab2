import java.io.IOException;
import java.nio.file.Files;
import java.nio.file.Path;
import java.util.regex.Matcher;
import java.util.regex.Pattern;

/** Some of LANGUAGE.md's rules, as far as the text of the program shows them; runs in the project's folder. */
public final class LanguageTest {
    private static final String[] FORBIDDEN = {
        "->", "::", "\\bcatch\\b", "\\btry\\b", "\\bfinally\\b", "\\bsynchronized\\b", "\\bassert\\b", "\\bpackage\\b",
        "static \\{", "\\bjava\\.util\\.(?!Arrays\\b|ArrayList\\b|List\\b)", "\\bExact\\b", "\\w+Exact\\(", "\\bMath\\.floor",
        "\\bObject\\b", "\\bvar\\b", "\\bprotected\\b", "import static", "\\bSystem\\.(?!arraycopy\\b)", "\\bThread\\b",
        "\\bhashCode\\b", "\\btoString\\b", "\\bequals\\b"};

    public static void main(String[] args) throws IOException {
        String text = Files.readString(Path.of("src/main/java/RulerWorkbench.java"));
        for (String forbidden : FORBIDDEN) {
            Check.no("found " + forbidden, Pattern.compile(forbidden).matcher(text).find());
        }
        Matcher thrown = Pattern.compile("throw [^;]*;").matcher(text);
        while (thrown.find()) {
            Check.yes(thrown.group(), thrown.group().matches("throw new Illegal(State|Argument)Exception\\(\"[^\"]*\"\\);"
                    + "|throw new IndexOutOfBoundsException\\(\"[^\"]*\"\\);"));
        }
        for (int i = 0; i < text.length(); i++) {
            if (text.charAt(i) > 126) {
                Check.yes("a sign above 126 at " + i, false);
            }
        }
        // Division by what is not a written number stands in residue and quotient alone, behind their tests.
        Matcher divided = Pattern.compile("[^/*] [/%] ([a-z]\\w*)").matcher(text);
        int divisions = 0;
        while (divided.find()) {
            divisions++;
        }
        Check.same("divisions by a variable", divisions, 2);
        Check.end("LanguageTest");
    }
}
