import java.io.IOException;
import java.nio.file.Files;
import java.nio.file.Path;
import java.util.ArrayList;
import java.util.List;
import java.util.Map;
import java.util.Set;
import java.util.TreeMap;
import java.util.TreeSet;
import java.util.regex.Matcher;
import java.util.regex.Pattern;

/**
 * Sets the words that the tests quote, by Kit.says, beside the document: each quote stands in the section that
 * its test is about, and each sentence of the document is quoted by a test or named below. The code block of
 * "The public face" is FaceTest's.
 */
public final class SentencesTest {
    /** Sentences that lead up to others, or tell what a name means, and name no case of their own. */
    private static final Set<String> NO_CASE = Set.of(
        "Public constants:", "Per node x:", "The following terms are used throughout:",
        "The following steps are used by the methods and by message handling.", "Else, in this order:",
        "Repeat the following.", "At the start:", "Otherwise:", "Otherwise, in this order:", "Handling by kind:"
    );

    /** All of "Not promised": what it leaves free has no test. */
    private static final Set<String> FREE = Set.of(
        "The inner representation of views, sets, timers and the pool is free, and so are speed and memory use, "
            + "as long as every answer and every change above holds exactly.",
        "Behaviour of methods not listed in the public face (such as toString, equals and hashCode) is free.",
        "Use of one object from several threads at once is not covered."
    );

    private static final Pattern SAYS = Pattern.compile("Kit\\.says\\(((?:\"(?:[^\"\\\\]|\\\\.)*\"|[^\"()])*)\\);");
    private static final Pattern LITERAL = Pattern.compile("\"((?:[^\"\\\\]|\\\\.)*)\"");

    public static void main(String[] args) throws IOException {
        Map<String, String> sections = sections(Files.readString(Path.of("../shared/DOC.md")));
        String start = sections.get("What it is");
        Map<String, Set<String>> quotes = quotes();
        Set<String> expected = new TreeSet<>(quotes.keySet());
        expected.addAll(Set.of("# GossipOverlay", "The public face", "Not promised"));
        Kit.due("the sections of the document", sections.keySet().toString(), expected.toString());
        Kit.due("the sections that tests quote", quotes.size(), 14);
        Kit.due("the sentences of \"Not promised\"",
            new TreeSet<>(sentences(sections.get("Not promised"))).toString(), new TreeSet<>(FREE).toString());
        for (Map.Entry<String, Set<String>> entry : quotes.entrySet()) {
            String section = sections.get(entry.getKey());
            for (String quote : entry.getValue()) {
                boolean found = plain(section).contains(quote) || plain(start).contains(quote);
                Kit.due("\"" + quote + "\" stands in \"" + entry.getKey() + "\"", found, true);
            }
            for (String sentence : sentences(section)) {
                Kit.due("\"" + sentence + "\" of \"" + entry.getKey() + "\" has a test",
                    NO_CASE.contains(sentence) || isQuoted(sentence, entry.getValue()), true);
            }
        }
        Kit.end();
    }

    private static boolean isQuoted(String sentence, Set<String> quotes) {
        for (String quote : quotes) {
            if (sentence.contains(quote) || quote.contains(sentence)) {
                return true;
            }
        }
        return false;
    }

    // ---- The document ----

    /** The text under each heading, by the heading's words up to a colon. */
    private static Map<String, String> sections(String document) {
        Map<String, String> sections = new TreeMap<>();
        for (String part : document.split("\n## ")) {
            int end = part.indexOf('\n');
            sections.put(part.substring(0, end).replaceAll(":.*", ""), part.substring(end));
        }
        return sections;
    }

    /** Without the marks of the document's layout. */
    private static String plain(String text) {
        return text.replaceAll("[*`]", "").replaceAll("\\s+", " ");
    }

    private static List<String> sentences(String section) {
        List<String> sentences = new ArrayList<>();
        for (String line : section.split("\n")) {
            String text = plain(line.replaceAll("^\\s*(-|\\d+\\.) ", "").replaceAll("\\*\\*[^*]*\\*\\*", "")).trim();
            for (String sentence : text.split("(?<=[^.]\\.) |(?<=:) (?=[A-Z\"])")) {
                if (!sentence.isEmpty()) {
                    sentences.add(sentence);
                }
            }
        }
        return sentences;
    }

    // ---- The tests ----

    /** What the tests quote, by the section that they are about. */
    private static Map<String, Set<String>> quotes() throws IOException {
        Map<String, Set<String>> quotes = new TreeMap<>();
        try (var files = Files.newDirectoryStream(Path.of("src/test/java"), "{*BoundaryTest,WhatItIsTest}.java")) {
            for (Path file : files) {
                String section = sectionOf(file.getFileName().toString());
                quotes.computeIfAbsent(section, s -> new TreeSet<>()).addAll(quotesOf(Files.readString(file)));
            }
        }
        return quotes;
    }

    private static String sectionOf(String file) {
        if (file.startsWith("Promise")) {
            return "Promise " + Integer.parseInt(file.substring(7, 9));
        }
        return file.startsWith("WhatItIs") ? "What it is" : "State and shared steps";
    }

    private static Set<String> quotesOf(String test) {
        Set<String> quotes = new TreeSet<>();
        Matcher says = SAYS.matcher(test);
        while (says.find()) {
            String words = says.group(1);
            // A quote that is used twice stands in a constant.
            if (words.matches("[A-Z_]+")) {
                int start = test.indexOf("String " + words + " =");
                words = test.substring(start, test.indexOf(";\n", start));
            }
            StringBuilder quote = new StringBuilder();
            Matcher literals = LITERAL.matcher(words);
            while (literals.find()) {
                quote.append(literals.group(1).replace("\\\"", "\""));
            }
            quotes.add(quote.toString());
        }
        return quotes;
    }
}
