import java.io.IOException;
import java.lang.reflect.Method;
import java.nio.file.Files;
import java.nio.file.Path;
import java.util.Arrays;
import java.util.regex.Matcher;
import java.util.regex.Pattern;

/** README.md: it names all of the document's public face, and its example answers what it says. */
public final class ReadmeTest {
    private static final Pattern MADE = Pattern.compile("GossipOverlay g = new GossipOverlay\\(([^)]*)\\);");
    private static final Pattern CALL = Pattern.compile("g\\.(\\w+)\\(([^)]*)\\); +// (-?\\w+)(: .*)?");

    public static void main(String[] args) throws Exception {
        String readme = Files.readString(Path.of("README.md"));
        namesTheFace(readme);
        exampleHolds(readme);
        Kit.due("the README tells how to run the tests", readme.contains("\n    .ci/run\n"), true);
        Kit.end();
    }

    private static void namesTheFace(String readme) throws IOException {
        String document = Files.readString(Path.of("../shared/DOC.md"));
        int named = 0;
        for (String line : document.split("\n")) {
            String declared = line.trim();
            if (declared.startsWith("public ") && !declared.contains(" class ")) {
                String words = declared.startsWith("public static final int ")
                    ? "`" + declared.replace("public static final int ", "").replace(";", "") + "`" : declared;
                Kit.due("the README names " + words, readme.contains(words), true);
                named++;
            }
        }
        Kit.due("the constants, the constructor and the calls of the document", named, 33);
    }

    private static void exampleHolds(String readme) throws ReflectiveOperationException {
        String section = readme.substring(readme.indexOf("## An example"));
        String block = section.substring(section.indexOf("```java\n") + 8, section.indexOf("\n```\n"));
        String[] lines = block.split("\n");
        Matcher made = MADE.matcher(lines[0]);
        Kit.due("the example makes an object first", made.matches(), true);
        int[] with = numbers(made.group(1));
        GossipOverlay g = new GossipOverlay(with[0], with[1], with[2], with[3]);
        for (int i = 1; i < lines.length; i++) {
            Matcher call = CALL.matcher(lines[i]);
            Kit.due("\"" + lines[i] + "\" is a call with its answer", call.matches(), true);
            if (call.matches()) {
                String got = String.valueOf(answer(g, call.group(1), numbers(call.group(2))));
                Kit.due("the example's line " + (i + 1) + ", " + call.group(1), got, call.group(3));
            }
        }
    }

    private static int[] numbers(String list) {
        return list.isEmpty() ? new int[0] : Arrays.stream(list.split(", ")).mapToInt(Integer::parseInt).toArray();
    }

    private static Object answer(GossipOverlay g, String name, int[] args) throws ReflectiveOperationException {
        Class<?>[] types = new Class<?>[args.length];
        Arrays.fill(types, int.class);
        Method method = GossipOverlay.class.getMethod(name, types);
        return method.invoke(g, Arrays.stream(args).boxed().toArray());
    }
}
