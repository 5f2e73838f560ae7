import java.nio.file.Files;
import java.nio.file.Path;
import java.util.ArrayList;
import java.util.List;
import java.util.Map;
import java.util.TreeMap;
import java.util.TreeSet;
import java.util.regex.Matcher;
import java.util.regex.Pattern;

/**
 * The rules of LANGUAGE.md that the text of the class shows. It reads the text as it is laid out
 * here (a method's head and its closing brace stand four blanks in) and is no parser of all Java.
 */
public final class LanguageTest {
    private static final String[] FORBIDDEN = {
        "import", "package", "float", "double", "String", "Math", "Integer", "Long", "System", "Arrays", "Object",
        "null", "throw", "throws", "try", "catch", "finally", "synchronized", "assert", "instanceof", "native",
        "interface", "enum", "record", "var", "getClass", "hashCode", "equals", "toString", "clone", "->", "::"
    };
    private static final Pattern HEAD = Pattern.compile("^    (?:public|private)(?: static)? [\\w\\[\\]]+ (\\w+)\\(");
    private static final Pattern CALL = Pattern.compile("\\b([a-z]\\w*)\\(");

    private static final Map<String, TreeSet<String>> CALLS = new TreeMap<>();
    private static final Map<String, Integer> LENGTHS = new TreeMap<>();

    public static void main(String[] args) throws Exception {
        String text = Files.readString(Path.of("src/main/java/GossipOverlay.java"));
        String code = text.replaceAll("(?s)/\\*.*?\\*/", "").replaceAll("//[^\n]*", "");
        forbiddenWords(code);
        newStandsInFieldsAlone(code);
        loopsCountUp(code);
        readMethods(code);
        Kit.due("methods were found", LENGTHS.size() > 16, true);
        for (String name : LENGTHS.keySet()) {
            Kit.due(name + " is at most sixty lines", LENGTHS.get(name) <= 60, true);
            int depth = depth(name, new ArrayList<>());
            Kit.due(name + " goes " + depth + " deep, at most six", depth <= 6, true);
        }
        Kit.end();
    }

    private static void forbiddenWords(String code) {
        for (String word : FORBIDDEN) {
            boolean found = Character.isLetter(word.charAt(0))
                ? Pattern.compile("\\b" + word + "\\b").matcher(code).find()
                : code.contains(word);
            Kit.due("\"" + word + "\" is found", found, false);
        }
    }

    private static void newStandsInFieldsAlone(String code) {
        for (String line : code.split("\n")) {
            if (Pattern.compile("\\bnew\\b").matcher(line).find()) {
                Kit.due(line.trim() + " is a field with its array", line.matches(
                    "    private final (int|boolean)\\[\\] \\w+ = new \\1\\[[A-Z_]+\\];"), true);
            }
        }
    }

    private static void loopsCountUp(String code) {
        Kit.due("while is found", Pattern.compile("\\bwhile\\b").matcher(code).find(), false);
        Matcher loops = Pattern.compile("\\bfor \\(.*").matcher(code);
        while (loops.find()) {
            Kit.due(loops.group() + " counts up to a bound",
                loops.group().matches("for \\(int (\\w+) = 0; \\1 < [\\w\\[\\]]+; \\1\\+\\+\\) \\{"), true);
        }
    }

    private static void readMethods(String code) {
        String current = null;
        int length = 0;
        for (String line : code.split("\n")) {
            Matcher head = HEAD.matcher(line);
            if (head.find()) {
                current = head.group(1);
                length = 0;
                CALLS.put(current, new TreeSet<>());
            } else if (current != null) {
                readCalls(current, line);
            }
            length++;
            if (line.equals("    }") && current != null) {
                LENGTHS.put(current, length);
                current = null;
            }
        }
    }

    private static void readCalls(String method, String line) {
        Matcher calls = CALL.matcher(line);
        while (calls.find()) {
            CALLS.get(method).add(calls.group(1));
            String arguments = insideBrackets(line, calls.end());
            Kit.due("a call inside the arguments of one, in " + line.trim(), CALL.matcher(arguments).find(), false);
        }
    }

    private static String insideBrackets(String line, int start) {
        int open = 1;
        int end = start;
        while (end < line.length() && open > 0) {
            open += line.charAt(end) == '(' ? 1 : line.charAt(end) == ')' ? -1 : 0;
            end++;
        }
        return line.substring(start, end);
    }

    private static int depth(String name, List<String> above) {
        Kit.due(name + " calls itself, by " + above, above.contains(name), false);
        Kit.due(name + " is a method of the class", CALLS.containsKey(name), true);
        if (above.contains(name) || !CALLS.containsKey(name)) {
            return 0;
        }
        List<String> path = new ArrayList<>(above);
        path.add(name);
        int deepest = 0;
        for (String called : CALLS.get(name)) {
            deepest = Math.max(deepest, depth(called, path));
        }
        return deepest + 1;
    }
}
