import java.io.IOException;
import java.nio.file.Files;
import java.util.ArrayList;
import java.util.List;
import java.util.concurrent.ExecutionException;
import java.util.concurrent.ExecutorService;
import java.util.concurrent.Executors;
import java.util.concurrent.Future;
import java.util.regex.Matcher;
import java.util.regex.Pattern;

/**
 * Puts one small fault after the other into the class and says which of them a test does not find. It takes
 * minutes, so .ci/run leaves it out: java -cp (compiled tests) Mutants BoundaryTest, from the project's directory.
 */
final class Mutants {
    /** What is looked for, and what takes its place; $1 and so on are groups. */
    private static final String[][] FAULTS = {
        {" < ", " <= "}, {" <= ", " < "}, {" > ", " >= "}, {" >= ", " > "}, {" == ", " != "}, {" != ", " == "},
        {" && ", " || "}, {" \\|\\| ", " && "}, {"(?<=[ (])!(?=[a-zA-Z(])", ""},
        {"\\b(\\d+)\\b(?!L)", "($1 + 1)"}, {"\\b(\\d+)\\b(?!L)", "($1 - 1)"},
        {" \\+ ", " - "}, {" - ", " + "}, {" \\+= ", " -= "}, {" \\* ", " + "},
        {"\\+\\+", "--"}, {"--", "++"}, {" \\|= ", " = "}, {" \\|= ", " &= "}, {" &= ", " = "}, {"& ~", "& "}, {" \\| ", " & "},
        {"INVALID_ARGUMENT;", "NOT_POSSIBLE;"}, {"NOT_POSSIBLE;", "LIMIT_REACHED;"}, {"LIMIT_REACHED;", "NOT_POSSIBLE;"},
        {"NOT_FOUND;", "NOT_POSSIBLE;"}, {"\\? (.+) : (.+);", "? $2 : $1;"},
        {"^( {8,})[\\w.\\[\\]]+(\\(.*\\)| [|&+-]?= .*|\\+\\+|--);$", "$1;"},
        {"^( {8,})if \\(.*\\) \\{$", "$1if (true) {"}, {"^( {8,})if \\(.*\\) \\{$", "$1if (false) {"},
    };

    private final Trial trial;

    private Mutants(Trial trial) {
        this.trial = trial;
    }

    public static void main(String[] args) throws IOException, InterruptedException, ExecutionException {
        Mutants mutants = new Mutants(new Trial(args.length > 0 ? args[0] : "BoundaryTest"));
        mutants.runAll(Files.readAllLines(Trial.SOURCE));
    }

    private void runAll(List<String> lines) throws IOException, InterruptedException, ExecutionException {
        ExecutorService workers = Executors.newFixedThreadPool(Runtime.getRuntime().availableProcessors());
        List<Future<String>> results = new ArrayList<>();
        for (int i = 0; i < lines.size(); i++) {
            for (String fault : faultsOf(lines.get(i))) {
                List<String> changed = new ArrayList<>(lines);
                changed.set(i, fault);
                String name = (i + 1) + ": " + lines.get(i).trim() + "   =>   " + fault.trim();
                int number = results.size();
                results.add(workers.submit(() -> name + "\n      " + trial.run(number, String.join("\n", changed))));
            }
        }
        int found = 0;
        for (Future<String> result : results) {
            boolean isFound = !result.get().endsWith(Trial.NOT_FOUND);
            found += isFound ? 1 : 0;
            System.out.println(result.get());
        }
        workers.shutdown();
        System.out.println(found + " of " + results.size() + " faults found or refused by the compiler");
    }

    private static List<String> faultsOf(String line) {
        List<String> faults = new ArrayList<>();
        String code = line.trim();
        if (code.startsWith("*") || code.startsWith("/") || code.isEmpty()) {
            return faults;
        }
        for (String[] fault : FAULTS) {
            Matcher matcher = Pattern.compile(fault[0]).matcher(line);
            while (matcher.find()) {
                StringBuilder changed = new StringBuilder(line.substring(0, matcher.start()));
                String with = matcher.group().replaceFirst(fault[0].replaceAll("\\(\\?[<!=].*?\\)", ""), fault[1]);
                changed.append(with).append(line.substring(matcher.end()));
                if (!changed.toString().equals(line)) {
                    faults.add(changed.toString());
                }
            }
        }
        return faults;
    }
}
