import java.io.IOException;
import java.io.UncheckedIOException;
import java.nio.file.Files;
import java.nio.file.Path;
import java.util.LinkedHashMap;
import java.util.Map;
import java.util.regex.Matcher;
import java.util.regex.Pattern;

/**
 * The document's sentences, by section ("What it is", "Terms 1" .. "Terms 3", "Behind the Terms", "Promise 1" ..
 * "Promise 31"). A test names the one that it holds, in the document's own words; at its end it is asked whether any words
 * of its sections were named by none.
 */
final class Sentences {
    private static final Map<String, String> SECTIONS = new LinkedHashMap<>();
    private static final Map<String, boolean[]> HELD = new LinkedHashMap<>();
    private static String face = "";

    static {
        Path document = Path.of(System.getProperty("shared", "../shared"), "DOC.md");
        if (Files.exists(document)) {
            try {
                read(Files.readString(document));
            } catch (IOException e) {
                throw new UncheckedIOException(e);
            }
        }
    }

    private Sentences() {
    }

    private static void read(String document) {
        Matcher promise = Pattern.compile("(?s)## (Promise \\d+): [^\n]*\n(.*?)(?=\n## |$)").matcher(document);
        while (promise.find()) {
            // the signature ahead of it is held by FaceAndRulesTest
            add(promise.group(1), promise.group(2).replaceFirst("`[^`]*`: ", ""));
        }
        Matcher terms = Pattern.compile("(?s)\n([123])\\. (.*?)(?=\n[123]\\. |\nThe constants)").matcher(document);
        while (terms.find()) {
            add("Terms " + terms.group(1), terms.group(2).replaceAll("```(text)?", ""));
        }
        Matcher around = Pattern.compile("(?s)## What it is\n(.*?)\n## .*\n(The constants: .*?)\n## Promise 1:").matcher(document);
        if (around.find()) {
            add("What it is", around.group(1));
            add("Behind the Terms", around.group(2));
        }
        Matcher interfaceOfIt = Pattern.compile("(?s)## The public face\n\\s*```java\n(.*?)```").matcher(document);
        face = interfaceOfIt.find() ? interfaceOfIt.group(1) : "";
    }

    /** The public face as the document writes it; empty if there is no document. */
    static String face() {
        return face;
    }

    private static void add(String section, String words) {
        String plain = words.replaceAll("\\s+", " ").trim();
        SECTIONS.put(section, plain);
        HELD.put(section, new boolean[plain.length()]);
    }

    /** What comes next holds these words of a section; they must stand there. */
    static void hold(String section, String words) {
        Check.about(section + ", '" + words + "'");
        if (SECTIONS.isEmpty()) {
            return;
        }
        String all = SECTIONS.getOrDefault(section, "");
        int at = all.indexOf(words);
        Check.due("the document has these words", at >= 0, true);
        for (; at >= 0; at = all.indexOf(words, at + 1)) {
            for (int i = at; i < at + words.length(); i++) {
                HELD.get(section)[i] = true;
            }
        }
    }

    /** No words of a section were left out: only signs between the sentences are. */
    static void dueAll(String section) {
        Check.about(section);
        if (SECTIONS.isEmpty()) {
            return;
        }
        StringBuilder left = new StringBuilder();
        String all = SECTIONS.getOrDefault(section, "there is no such section");
        boolean[] held = HELD.getOrDefault(section, new boolean[all.length()]);
        for (int i = 0; i < all.length(); i++) {
            left.append(held[i] ? '|' : all.charAt(i));
        }
        String words = left.toString().replaceAll("\\|+", "|").replaceAll("[;:,.() ]*\\|[;:,.() |]*", "|");
        Check.due("words that no test names", words, "|");
    }
}
