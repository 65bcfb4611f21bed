import java.io.IOException;
import java.lang.reflect.Field;
import java.lang.reflect.Method;
import java.lang.reflect.Modifier;
import java.nio.file.Files;
import java.nio.file.Path;
import java.util.ArrayList;
import java.util.List;
import java.util.Set;
import java.util.TreeSet;
import java.util.regex.Matcher;
import java.util.regex.Pattern;

/** The public face of the document, and the rules of LANGUAGE.md that a look at class and source can test. */
public final class FaceTest {
    private static final Check check = new Check();
    private static final Set<String> FACE = Set.of(
        "reset/1", "link/3", "lay/0", "put/1", "leave/0", "order/2", "release/0", "belief/0", "beliefAfter/1",
        "tell/2", "turn/0", "undo/0", "count/1", "neighbours/1", "searcher/2", "hide/1", "flee/1", "setNews/2",
        "evader/1", "ahead/0", "planTurns/0", "planOrder/2", "planMoves/0", "settles/0", "leastSearchers/0",
        "bestTurns/1", "type/1", "clearText/0", "fault/0");
    private static final Set<String> CONSTANTS = Set.of("INVALID_ARGUMENT", "NOT_POSSIBLE", "LIMIT_REACHED", "NOT_FOUND");

    public static void main(String[] args) throws IOException {
        face();
        List<Class<?>> classes = new ArrayList<>(List.of(PursuitDesk.class.getDeclaredClasses()));
        for (Class<?> inside : classes) {
            check.part(inside.getSimpleName());
            check.holds("static, not public, not protected", Modifier.isStatic(inside.getModifiers())
                && (inside.getModifiers() & (Modifier.PUBLIC | Modifier.PROTECTED)) == 0);
        }
        classes.add(PursuitDesk.class);
        check.holds("at most twelve classes", classes.size() <= 12);
        for (Class<?> each : classes) {
            members(each);
        }
        String source = Files.readString(Path.of("src/main/java/PursuitDesk.java"));
        words(source);
        lengths(source);
        headings(source);
        check.end();
    }

    private static void face() {
        check.part("rule 1");
        check.holds("public and final", (PursuitDesk.class.getModifiers() & (Modifier.PUBLIC | Modifier.FINAL))
            == (Modifier.PUBLIC | Modifier.FINAL));
        check.holds("no package", PursuitDesk.class.getPackageName().isEmpty());
        check.is("constructors", PursuitDesk.class.getDeclaredConstructors().length, 1);
        check.is("public constructors", PursuitDesk.class.getConstructors().length, 1);
        Set<String> seen = new TreeSet<>();
        for (Method method : PursuitDesk.class.getDeclaredMethods()) {
            if (!Modifier.isPrivate(method.getModifiers())) {
                boolean ints = method.getReturnType() == int.class;
                for (Class<?> type : method.getParameterTypes()) {
                    ints &= type == int.class;
                }
                check.holds(method + " is public and of ints", Modifier.isPublic(method.getModifiers()) && ints
                    && !Modifier.isStatic(method.getModifiers()));
                seen.add(method.getName() + "/" + method.getParameterCount());
            }
        }
        check.holds("the methods of the document: " + seen, seen.equals(FACE));
        Set<String> constants = new TreeSet<>();
        for (Field field : PursuitDesk.class.getDeclaredFields()) {
            if (!Modifier.isPrivate(field.getModifiers())) {
                constants.add(field.getName());
            }
        }
        check.holds("the constants of the document: " + constants, constants.equals(CONSTANTS));
    }

    private static void members(Class<?> each) {
        check.part(each.getSimpleName());
        int fields = 0;
        for (Field field : each.getDeclaredFields()) {
            boolean isStatic = Modifier.isStatic(field.getModifiers());
            fields += isStatic ? 0 : 1;
            check.holds("static " + field + " is a constant", !isStatic || (Modifier.isFinal(field.getModifiers())
                && (field.getType() == int.class || field.getType() == long.class)));
        }
        check.holds("at most twenty fields", fields <= 20);
        for (Method method : each.getDeclaredMethods()) {
            check.holds(method + " takes at most seven", method.getParameterCount() <= 7);
            boolean named = FACE.stream().anyMatch(f -> f.startsWith(method.getName() + "/"));
            check.holds(method + " bears no public name", each == PursuitDesk.class
                && Modifier.isPublic(method.getModifiers()) || !named);
        }
    }

    /** The document says which headings stand ahead of which calls. */
    private static void headings(String source) {
        check.part("headings");
        String[] heading = {"// ---- the graph and the searchers\n", "// ---- the hidden evader\n",
            "// ---- what could be; nothing changes\n", "// ---- texts\n"};
        String[] calls = {"reset link lay put leave order release belief beliefAfter tell turn undo count neighbours searcher",
            "hide flee setNews evader", "ahead planTurns planOrder planMoves settles leastSearchers bestTurns",
            "type clearText fault"};
        int position = 0;
        for (int i = 0; i < heading.length; i++) {
            position = source.indexOf(heading[i], position);
            check.holds("in its place: " + heading[i].trim(), position >= 0);
            for (String call : calls[i].split(" ")) {
                position = source.indexOf("public int " + call + "(", Math.max(0, position));
                check.holds("behind its heading: " + call, position >= 0);
            }
        }
    }

    private static void words(String source) {
        check.part("rules 2 to 6 and 13");
        String code = source.replaceAll("(?s)/\\*.*?\\*/", " ").replaceAll("//[^\n]*", " ").replaceAll("'.'", "0");
        String[] refused = {"throw", "throws", "try", "catch", "synchronized", "assert", "import", "package", "record",
            "Object", "Thread", "Random", "instanceof", "protected", "native", "volatile", "transient", "var", "yield"};
        for (String word : refused) {
            check.holds("no " + word, !Pattern.compile("\\b" + word + "\\b").matcher(code).find());
        }
        check.holds("no lambda or method reference", !code.contains("->") && !code.contains("::"));
        check.holds("no annotation", !code.contains("@"));
        check.holds("no text", !code.contains("\""));
        Matcher library = Pattern.compile("\\b(System|Math|Long|Integer|Arrays)\\.(\\w+)").matcher(code);
        Set<String> allowed = Set.of("System.arraycopy", "Math.min", "Math.max", "Long.bitCount");
        while (library.find()) {
            check.holds(library.group() + " is in the library", allowed.contains(library.group()));
        }
        check.holds("signs 1 to 127", source.chars().allMatch(c -> c > 0 && c < 128));
    }

    private static void lengths(String source) {
        check.part("rule 11");
        String[] lines = source.split("\n");
        Pattern opening = Pattern.compile("^( {4}| {8})[A-Za-z].*\\(.*\\) \\{$");
        for (int i = 0; i < lines.length; i++) {
            Matcher matcher = opening.matcher(lines[i]);
            if (matcher.find()) {
                String closing = matcher.group(1) + "}";
                int end = i;
                while (end < lines.length && !lines[end].equals(closing)) {
                    end++;
                }
                check.holds("short: " + lines[i].trim(), end - i < 60);
            }
        }
    }
}
