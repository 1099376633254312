import java.nio.file.Files;
import java.nio.file.Path;
import java.util.ArrayList;
import java.util.HashMap;
import java.util.List;
import java.util.Map;
import java.util.TreeSet;
import java.util.Set;
import java.util.regex.Matcher;
import java.util.regex.Pattern;

/** The rules of LANGUAGE.md that can be seen in the text of the class. */
public final class LanguageTest {
    private static final Pattern HEAD = Pattern.compile(
        "^    (?:public|private) (?:static )?(?:int |long |boolean |void )?(\\w+)\\(.*\\{$");
    private static final Pattern CALL = Pattern.compile("\\b([a-zA-Z]\\w*)\\(");
    private static final Set<String> WORDS = Set.of("if", "for", "while", "switch", "return");

    public static void main(String[] args) throws Exception {
        String text = Files.readString(Path.of(args[0])).replaceAll("(?s)/\\*.*?\\*/", "").replaceAll("//[^\n]*", "");
        words(text);
        arrays(text);
        Map<String, List<String>> bodies = bodies(text);
        Check.due("methods were found", bodies.size() > 13, true);
        calls(bodies);
        Check.finish("LanguageTest");
    }

    private static void words(String text) {
        String[] banned = {
            "import", "package", "float", "double", "String", "Math", "Integer", "System", "Arrays", "Object", "throw",
            "try", "catch", "synchronized", "assert", "instanceof", "null", "protected", "enum", "record", "interface",
            "->", "::", "\"", "equals", "hashCode", "clone", "static \\{", "\\[\\]\\["
        };
        for (String word : banned) {
            String bounded = Character.isLetter(word.charAt(0)) ? "\\b" + word : word;
            Check.due("banned: " + word, Pattern.compile(bounded).matcher(text).find(), false);
        }
    }

    private static void arrays(String text) {
        for (String line : text.split("\n")) {
            if (line.matches(".*\\bnew\\b.*")) {
                boolean field = line.matches("    private final (int|boolean)\\[\\] \\w+ = new \\1\\[[A-Z_]+\\];");
                Check.due("array made in a field: " + line.trim(), field, true);
            }
        }
    }

    private static Map<String, List<String>> bodies(String text) {
        Map<String, List<String>> bodies = new HashMap<>();
        List<String> body = new ArrayList<>();
        for (String line : text.split("\n")) {
            Matcher head = HEAD.matcher(line);
            if (head.matches()) {
                body = new ArrayList<>();
                bodies.put(head.group(1), body);
            } else {
                body.add(line);
            }
        }
        return bodies;
    }

    private static void calls(Map<String, List<String>> bodies) {
        Map<String, Set<String>> called = new HashMap<>();
        for (Map.Entry<String, List<String>> entry : bodies.entrySet()) {
            Set<String> names = new TreeSet<>();
            for (String line : entry.getValue()) {
                Matcher call = CALL.matcher(line);
                int own = 0;
                while (call.find()) {
                    if (!WORDS.contains(call.group(1))) {
                        names.add(call.group(1));
                        Check.due("call of the class's own: " + call.group(1), bodies.containsKey(call.group(1)), true);
                        own++;
                    }
                }
                Check.due("one call a line, or a choice of two: " + line.trim(), own <= (line.contains("?") ? 2 : 1), true);
            }
            called.put(entry.getKey(), names);
            Check.due("lines of " + entry.getKey(), entry.getValue().size() <= 60, true);
        }
        for (String name : called.keySet()) {
            Check.due("depth of calls from " + name, depth(name, called, 0) <= 6, true);
        }
    }

    private static int depth(String name, Map<String, Set<String>> called, int above) {
        int deepest = 0;
        if (above < 20) {
            for (String next : called.getOrDefault(name, Set.of())) {
                deepest = Math.max(deepest, depth(next, called, above + 1));
            }
        }
        return 1 + deepest;
    }
}
