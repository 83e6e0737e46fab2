import java.io.IOException;
import java.lang.reflect.Method;
import java.lang.reflect.Modifier;
import java.nio.file.Files;
import java.nio.file.Path;
import java.util.ArrayList;
import java.util.List;
import java.util.TreeSet;
import java.util.regex.Matcher;
import java.util.regex.Pattern;
import java.util.stream.Stream;

/** What README.md says: the calls that it shows, and the tests that it lists; runs in the project's folder. */
public final class ReadmeTest {
    private static final Pattern MADE = Pattern.compile("RulerWorkbench bench = new RulerWorkbench\\(\\);(\\s*//.*)?");
    private static final Pattern CALL =
            Pattern.compile("bench\\.(\\w+\\([^)]*\\));\\s+// (-?\\d+|true|false|throws \\w+)(: .*)?");
    private static final Pattern SET = Pattern.compile("set (\\d) is now ([\\d ]*\\d|empty)");
    private static final Pattern MODULUS = Pattern.compile("the modulus is now (\\d+)");
    private static final Pattern LISTED = Pattern.compile("^\\| `(\\w+)` \\|", Pattern.MULTILINE);

    private final List<String> calls = new ArrayList<>();
    private RulerWorkbench bench = new RulerWorkbench();

    public static void main(String[] args) throws IOException {
        String text = Files.readString(Path.of("README.md"));
        TreeSet<String> shown = new TreeSet<>();
        Matcher block = Pattern.compile("```java\n(.*?)```", Pattern.DOTALL).matcher(text);
        int blocks = 0;
        while (block.find()) {
            new ReadmeTest().run(block.group(1), shown);
            blocks++;
        }
        Check.yes("README.md shows calls", blocks > 0);
        for (Method method : RulerWorkbench.class.getDeclaredMethods()) {
            if (Modifier.isPublic(method.getModifiers())) {
                Check.yes("README.md shows " + method.getName(), shown.contains(method.getName()));
            }
        }
        listsTests(text);
        Check.yes("README.md says how to run the tests", text.contains("```sh\n.ci/run\n```"));
        Check.yes(".ci/run can be run", Files.isExecutable(Path.of(".ci/run")));
        Check.end("ReadmeTest");
    }

    /** Each line is a call with its answer, or makes the object that the calls behind it are made on. */
    private void run(String block, TreeSet<String> shown) {
        for (String line : block.split("\n")) {
            Matcher call = CALL.matcher(line);
            if (MADE.matcher(line).matches()) {
                bench = new RulerWorkbench();
                calls.clear();
            } else if (call.matches()) {
                calls.add(call.group(1));
                shown.add(call.group(1).substring(0, call.group(1).indexOf('(')));
                Check.text(line, Script.answer(bench, call.group(1)), call.group(2));
                told(line, call.group(3) == null ? "" : call.group(3));
            } else {
                Check.yes("a line that is no call with its answer: " + line, line.isBlank());
            }
        }
    }

    private void told(String line, String words) {
        Matcher set = SET.matcher(words);
        while (set.find()) {
            Check.text(line, Scene.setText(bench, Integer.parseInt(set.group(1))),
                    set.group(2).equals("empty") ? "{}" : "{" + set.group(2) + "}");
        }
        Matcher modulus = MODULUS.matcher(words);
        while (modulus.find()) {
            Check.text(line, String.valueOf(again().setModulus(2)), modulus.group(1));
        }
    }

    /** The same calls on an object of its own: asking for the modulus saves a state. */
    private RulerWorkbench again() {
        RulerWorkbench x = new RulerWorkbench();
        for (String call : calls) {
            Script.answer(x, call);
        }
        return x;
    }

    private static void listsTests(String text) throws IOException {
        TreeSet<String> listed = new TreeSet<>();
        Matcher row = LISTED.matcher(text);
        while (row.find()) {
            listed.add(row.group(1));
        }
        TreeSet<String> there = new TreeSet<>();
        try (Stream<Path> files = Files.list(Path.of("src/test/java"))) {
            files.map(file -> file.getFileName().toString()).filter(name -> name.endsWith("Test.java"))
                    .forEach(name -> there.add(name.substring(0, name.length() - ".java".length())));
        }
        Check.text("the tests that README.md lists", listed.toString(), there.toString());
    }
}
