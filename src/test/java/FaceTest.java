import java.io.IOException;
import java.lang.reflect.Constructor;
import java.lang.reflect.Field;
import java.lang.reflect.Method;
import java.lang.reflect.Modifier;
import java.nio.file.Files;
import java.nio.file.Path;
import java.util.ArrayList;
import java.util.Arrays;
import java.util.List;
import java.util.Set;
import java.util.TreeMap;
import java.util.TreeSet;

/**
 * The public face: the document's code block, line by line, beside the public lines of the class; and the compiled
 * class, with what it shows of the rules of LANGUAGE.md.
 */
public final class FaceTest {
    private static final List<Class<?>> PLAIN = List.of(
        int.class, long.class, short.class, byte.class, char.class, boolean.class);

    public static void main(String[] args) throws Exception {
        asInTheDocument();
        constants();
        constructor();
        methods();
        theClassItself();
        fields();
        Kit.end();
    }

    private static void asInTheDocument() throws IOException {
        String document = Files.readString(Path.of("../shared/DOC.md"));
        String section = document.substring(document.indexOf("## The public face"));
        String block = section.substring(section.indexOf("```java"), section.indexOf("\n```\n"));
        String source = Files.readString(Path.of("src/main/java/GossipOverlay.java"));
        Kit.due("the number of public lines in the document", publicLines(block).size(), 34);
        Kit.due("the public lines of the class", String.join("\n", publicLines(source)),
            String.join("\n", publicLines(block)));
    }

    private static List<String> publicLines(String text) {
        List<String> lines = new ArrayList<>();
        for (String line : text.split("\n")) {
            if (line.trim().startsWith("public ")) {
                lines.add(line.trim().replaceAll(" ?\\{$", ""));
            }
        }
        return lines;
    }

    private static void constants() throws IllegalAccessException {
        TreeMap<String, Integer> got = new TreeMap<>();
        for (Field f : GossipOverlay.class.getDeclaredFields()) {
            if (!Modifier.isPrivate(f.getModifiers())) {
                Kit.due(f.getName() + " is", Modifier.toString(f.getModifiers()) + " " + f.getType(),
                    "public static final int");
                got.put(f.getName(), f.getInt(null));
            }
        }
        Kit.due("the constants", got.toString(), "{ARWL=3, DISCONNECT=4, FORWARDJOIN=2, GOSSIP=9, GRAFT=11, "
            + "IHAVE=10, JOIN=1, LINK=3, MAX_BROADCASTS=16, NEIGHBOR=5, POOL=64, PRUNE=12, PRWL=1, REJECT=6, "
            + "SHUFFLE=7, SHUFFLEREPLY=8}");
    }

    private static void constructor() {
        Constructor<?>[] all = GossipOverlay.class.getDeclaredConstructors();
        Kit.due("the number of constructors", all.length, 1);
        Kit.due("the constructor", all[0].toString(), "public GossipOverlay(int,int,int,int)");
    }

    private static void methods() {
        TreeSet<String> got = new TreeSet<>();
        TreeSet<String> faceNames = new TreeSet<>();
        TreeSet<String> ownNames = new TreeSet<>();
        for (Method m : GossipOverlay.class.getDeclaredMethods()) {
            Kit.due("parameters of " + m.getName() + " are at most seven", m.getParameterCount() <= 7, true);
            if (Modifier.isPrivate(m.getModifiers())) {
                ownNames.add(m.getName());
            } else {
                faceNames.add(m.getName());
                got.add(m.toString().replace("GossipOverlay.", ""));
            }
        }
        Set<String> want = new TreeSet<>(Arrays.asList(
            "public boolean join(int,int)", "public boolean shuffle(int)", "public boolean crash(int)",
            "public int broadcast(int)", "public boolean deliver(int)", "public boolean drop(int)",
            "public int tick()", "public int message(int)", "public int pending()",
            "public int activeAt(int,int)", "public int passiveAt(int,int)",
            "public boolean isEager(int,int)", "public int delivered(int)",
            "public int graftState(int,int)", "public int lost()", "public boolean isAlive(int)"));
        Kit.due("the methods", got.toString(), want.toString());
        ownNames.retainAll(faceNames);
        Kit.due("private methods with a public name", ownNames.toString(), "[]");
    }

    private static void theClassItself() {
        Class<?> c = GossipOverlay.class;
        Kit.due("the class is", Modifier.toString(c.getModifiers()), "public final");
        Kit.due("its superclass", c.getSuperclass().getName(), "java.lang.Object");
        Kit.due("its interfaces", c.getInterfaces().length, 0);
        Kit.due("its inner classes", c.getDeclaredClasses().length, 0);
        Kit.due("its package", c.getPackageName(), "");
    }

    private static void fields() {
        int count = 0;
        for (Field f : GossipOverlay.class.getDeclaredFields()) {
            Class<?> type = f.getType();
            if (Modifier.isStatic(f.getModifiers())) {
                Kit.due(f.getName() + " is a constant number", Modifier.isFinal(f.getModifiers())
                    && (type == int.class || type == long.class), true);
            } else {
                count++;
                Kit.due(f.getName() + " is a number or numbers",
                    PLAIN.contains(type.isArray() ? type.getComponentType() : type), true);
            }
        }
        Kit.due("the fields are at most forty", count <= 40, true);
    }
}
