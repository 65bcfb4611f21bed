import java.io.IOException;
import java.nio.file.Files;
import java.nio.file.Path;
import java.util.ArrayList;
import java.util.List;
import java.util.regex.Matcher;
import java.util.regex.Pattern;
import java.util.stream.Stream;

/** README.md: its examples answer what their comments say, and it names what there is. */
public final class ReadmeTest {
    private static final Pattern LINE = Pattern.compile("desk\\.(.*);(?:\\s*//\\s*(-?\\d+)?.*)?");
    private static final Pattern INNERMOST = Pattern.compile("(?:desk\\.)?(\\w+)\\(([^()]*)\\)");
    private static final Pattern SIGN = Pattern.compile("'(.)'");
    private static final String NEW = "PursuitDesk desk = new PursuitDesk();";
    private static final Check check = new Check();

    public static void main(String[] args) throws IOException {
        List<String> lines = Files.readAllLines(Path.of("README.md"));
        check.is("examples", examples(lines), 3);
        String page = String.join("\n", lines);
        namesEveryCall(page);
        namesEveryTest(page);
        namesOnlyWhatIsThere(page);
        check.end();
    }

    private static int examples(List<String> lines) {
        int examples = 0;
        PursuitDesk desk = null;
        for (String line : lines) {
            if (line.startsWith("```java")) {
                examples++;
                check.part("example " + examples);
            } else if (line.startsWith(NEW)) {
                desk = new PursuitDesk();
            } else if (line.startsWith("desk.")) {
                answer(desk, line);
            }
        }
        return examples;
    }

    private static void answer(PursuitDesk desk, String line) {
        Matcher matcher = LINE.matcher(line);
        if (desk == null || !matcher.matches()) {
            check.holds("an example's line: " + line, false);
            return;
        }
        int answer = call(desk, SIGN.matcher(matcher.group(1)).replaceAll(sign -> "" + (int) sign.group(1).charAt(0)));
        if (matcher.group(2) != null) {
            check.is(matcher.group(1), answer, Integer.parseInt(matcher.group(2)));
        } else {
            check.holds(matcher.group(1) + " returns no error", answer >= 0);
        }
    }

    /** Calls that stand in the arguments of another go first. */
    private static int call(PursuitDesk desk, String words) {
        Matcher inner = INNERMOST.matcher(words);
        if (!inner.find()) {
            throw new IllegalStateException("no call: " + words);
        }
        int answer = Script.call(desk, inner.group(1), inner.group(2));
        String rest = words.substring(0, inner.start()) + answer + words.substring(inner.end());
        return rest.contains("(") ? call(desk, rest) : answer;
    }

    private static void namesEveryCall(String page) {
        check.part("the table of calls");
        for (var method : PursuitDesk.class.getDeclaredMethods()) {
            if (java.lang.reflect.Modifier.isPublic(method.getModifiers())) {
                check.holds("names " + method.getName(), page.contains("`" + method.getName() + "`"));
            }
        }
        for (String constant : new String[] {"`INVALID_ARGUMENT` (-1)", "`NOT_POSSIBLE` (-2)", "`LIMIT_REACHED` (-3)",
            "`NOT_FOUND` (-4)"}) {
            check.holds("names " + constant, page.contains(constant));
        }
    }

    private static void namesEveryTest(String page) throws IOException {
        check.part("the tests");
        for (String name : testClasses()) {
            if (name.endsWith("Test")) {
                check.holds("names " + name, page.contains("- `" + name + "`:"));
            }
        }
    }

    private static void namesOnlyWhatIsThere(String page) throws IOException {
        check.part("what is there");
        List<String> classes = testClasses();
        classes.addAll(List.of("PursuitDesk", "YourProgram"));
        Matcher named = Pattern.compile("`([A-Z][a-z]\\w*)`|java -cp \\S+ (\\w+)").matcher(page);
        while (named.find()) {
            String name = named.group(1) == null ? named.group(2) : named.group(1);
            check.holds("there is a " + name, classes.contains(name));
        }
        for (String file : new String[] {".ci/run", "src/main/java/PursuitDesk.java", "../shared/DOC.md",
            "../shared/tests"}) {
            check.holds("names " + file, page.contains(file));
            check.holds("there is " + file, Files.exists(Path.of(file)));
        }
        check.holds(".ci/run can be run", Files.isExecutable(Path.of(".ci/run")));
    }

    private static List<String> testClasses() throws IOException {
        List<String> names = new ArrayList<>();
        try (Stream<Path> files = Files.list(Path.of("src/test/java"))) {
            files.forEach(file -> names.add(file.getFileName().toString().replace(".java", "")));
        }
        return names;
    }
}
