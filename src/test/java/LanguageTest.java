import java.io.PrintWriter;
import java.io.StringWriter;
import java.util.ArrayList;
import java.util.LinkedHashMap;
import java.util.LinkedHashSet;
import java.util.List;
import java.util.Map;
import java.util.Optional;
import java.util.Set;
import java.util.regex.Matcher;
import java.util.regex.Pattern;
import java.util.spi.ToolProvider;

/** Rules of LANGUAGE.md that the compiled class shows: what its methods call, how deep, and what they make. */
public final class LanguageTest {
    private static final Pattern CLASS = Pattern.compile("^.*class (PursuitDesk[$\\w]*)(?: extends (PursuitDesk[$\\w]*))? \\{$");
    private static final Pattern METHOD = Pattern.compile("^  .*?([$\\w]+)\\(.*\\);$");
    private static final Pattern DESCRIPTOR = Pattern.compile("^    descriptor: (\\(.*)$");
    private static final Pattern CALL = Pattern.compile("invoke\\w+ .*Method (?:([$\\w/]+)\\.)?\"?([<>\\w]+)\"?:(\\(.*)$");
    private static final Pattern STEP = Pattern.compile("^ *\\d+: (\\w+)");
    private static final Set<String> LIBRARY = Set.of("java/lang/Object.<init>()V", "java/lang/Math.min(II)I",
        "java/lang/Math.max(II)I", "java/lang/Long.bitCount(J)I",
        "java/lang/System.arraycopy(Ljava/lang/Object;ILjava/lang/Object;II)V");
    private static final Set<String> REFUSED = Set.of("athrow", "monitorenter", "invokedynamic", "invokeinterface", "checkcast",
        "instanceof", "multianewarray", "putstatic", "jsr");
    private static final Set<String> MAKING = Set.of("new", "newarray", "anewarray");
    private static final int DEEPEST = 8;
    private static final Check check = new Check();

    /** Methods by class, name and descriptor, with what they call. */
    private final Map<String, Set<String>> calls = new LinkedHashMap<>();
    private final Map<String, String> above = new LinkedHashMap<>();
    private final Set<String> recursive = new LinkedHashSet<>();

    public static void main(String[] args) {
        Optional<ToolProvider> javap = ToolProvider.findFirst("javap");
        if (javap.isEmpty()) {
            System.out.println("this machine has no javap");
            return;
        }
        LanguageTest test = new LanguageTest();
        test.read(listing(javap.get()));
        test.library();
        test.depth();
        check.end();
    }

    private static String listing(ToolProvider javap) {
        List<String> arguments = new ArrayList<>(List.of("-c", "-p", "-s", "-cp", System.getProperty("java.class.path")));
        arguments.add("PursuitDesk");
        for (Class<?> inside : PursuitDesk.class.getDeclaredClasses()) {
            arguments.add(inside.getName());
        }
        StringWriter out = new StringWriter();
        check.is("javap", javap.run(new PrintWriter(out), new PrintWriter(out), arguments.toArray(new String[0])), 0);
        return out.toString();
    }

    private void read(String listing) {
        String owner = "";
        String name = "";
        String method = "";
        for (String line : listing.split("\n")) {
            Matcher type = CLASS.matcher(line);
            Matcher head = METHOD.matcher(line);
            Matcher descriptor = DESCRIPTOR.matcher(line);
            if (type.matches()) {
                owner = type.group(1);
                above.put(owner, type.group(2) == null ? "" : type.group(2));
            } else if (head.matches()) {
                name = head.group(1).equals(owner) ? "<init>" : head.group(1);
            } else if (descriptor.matches()) {
                method = owner + "." + name + descriptor.group(1);
                calls.put(method, new LinkedHashSet<>());
            } else {
                step(owner, method, line);
            }
        }
        check.holds("it has the class and those inside it", above.size() == 1 + PursuitDesk.class.getDeclaredClasses().length);
    }

    private void step(String owner, String method, String line) {
        Matcher step = STEP.matcher(line);
        if (!step.find()) {
            return;
        }
        check.part(method);
        check.holds("rule 6: no " + step.group(1), !REFUSED.contains(step.group(1)));
        check.holds("rule 12: only constructors make anything", !MAKING.contains(step.group(1)) || method.contains("<init>"));
        Matcher call = CALL.matcher(line);
        if (call.find()) {
            calls.get(method).add((call.group(1) == null ? owner : call.group(1)) + "." + call.group(2) + call.group(3));
        }
    }

    private void library() {
        check.part("rule 4");
        for (Map.Entry<String, Set<String>> method : calls.entrySet()) {
            for (String called : method.getValue()) {
                check.holds(method.getKey() + " may call " + called, LIBRARY.contains(called) || !answering(called).isEmpty());
            }
        }
    }

    /** The methods that a call can reach: the class's own or the one above it, and those of the classes below. */
    private List<String> answering(String called) {
        int dot = called.indexOf('.');
        String owner = called.substring(0, dot);
        String rest = called.substring(dot);
        List<String> found = new ArrayList<>();
        for (String type = owner; !type.isEmpty() && found.isEmpty(); type = above.getOrDefault(type, "")) {
            if (calls.containsKey(type + rest)) {
                found.add(type + rest);
            }
        }
        for (String type : above.keySet()) {
            if (above.get(type).equals(owner) && calls.containsKey(type + rest) && !rest.startsWith(".<init>")) {
                found.add(type + rest);
            }
        }
        return found;
    }

    private void depth() {
        check.part("rules 8 and 11");
        for (String method : calls.keySet()) {
            int depth = depthFrom(method, new ArrayList<>());
            check.holds(method + " goes at most " + DEEPEST + " deep: " + depth, depth <= DEEPEST);
        }
        check.holds("only giveOrders calls itself: " + recursive,
            recursive.equals(Set.of("PursuitDesk$Search.giveOrders(IJII)V")));
    }

    /** How many calls stand open at most, a method that calls itself counted once. */
    private int depthFrom(String method, List<String> open) {
        if (open.contains(method)) {
            check.holds("it calls itself at once, not by others: " + method, open.get(open.size() - 1).equals(method));
            recursive.add(method);
            return 0;
        }
        open.add(method);
        int deepest = 0;
        for (String called : calls.get(method)) {
            for (String answering : answering(called)) {
                deepest = Math.max(deepest, depthFrom(answering, open));
            }
        }
        open.remove(open.size() - 1);
        return deepest + 1;
    }
}
