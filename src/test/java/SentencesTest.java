import java.io.IOException;
import java.nio.file.Files;
import java.nio.file.Path;
import java.util.ArrayList;
import java.util.Arrays;
import java.util.LinkedHashMap;
import java.util.List;
import java.util.Map;
import java.util.regex.Matcher;
import java.util.regex.Pattern;
import java.util.stream.Stream;

/**
 * The sentences that Edges*Test say they hold: each stands in the document where they say, and of
 * the promises and of the terms none is left out.
 */
public final class SentencesTest {
    private static final Checks CHECKS = new Checks();
    private static final Pattern HOLDS = Pattern.compile("holds\\(\\s*\"([^\"]+)\",\\s*((?:\"[^\"]*\"\\s*\\+?\\s*)+)\\)");
    /** Where the document has a promise's or a term's sentences: from the first mark up to the second. */
    private static final String[][] PLACES = {{"What it is", "## What it is", "## The public face"}, {"I", "\nI. ", "\nII. "},
        {"II", "\nII. ", "\nIII. "}, {"III", "\nIII. ", "\nIV. "}, {"IV", "\nIV. ", "\nThe constants:"},
        {"Constants", "\nThe constants:", "\nAhead of the calls"}};

    public static void main(String[] args) throws IOException {
        Path path = Path.of("../shared/DOC.md");
        if (!Files.isReadable(path)) {
            System.out.println("no document at " + path + ": its sentences were not looked for");
            return;
        }
        String document = Files.readString(path);
        Map<String, String> sections = sectionsOf(document);
        Map<String, List<String>> held = new LinkedHashMap<>();
        try (Stream<Path> files = Files.list(Path.of("src/test/java"))) {
            for (Path file : files.filter(one -> one.getFileName().toString().startsWith("Edges")).sorted().toList()) {
                collect(Files.readString(file), held);
            }
        }
        for (Map.Entry<String, List<String>> entry : held.entrySet()) {
            String section = sections.getOrDefault(entry.getKey(), "");
            for (String sentence : entry.getValue()) {
                CHECKS.due(entry.getKey() + " says '" + sentence + "'", section.contains(sentence), true);
            }
        }
        for (Map.Entry<String, String> entry : sections.entrySet()) {
            String left = without(entry.getValue(), held.getOrDefault(entry.getKey(), List.of()));
            boolean prose = entry.getKey().equals("What it is") || entry.getKey().equals("Constants");
            CHECKS.due(entry.getKey() + " is held, but for '" + left + "'", prose || left.isEmpty(), true);
        }
        CHECKS.finish();
    }

    private static String plain(String text) {
        return text.replace("```text", " ").replace("```", " ").replaceAll("\\s+", " ").trim();
    }

    private static Map<String, String> sectionsOf(String document) {
        Map<String, String> sections = new LinkedHashMap<>();
        for (String[] place : PLACES) {
            int from = document.indexOf(place[1]);
            int upTo = document.indexOf(place[2], Math.max(0, from));
            CHECKS.due("the document has " + place[0], from >= 0 && upTo > from, true);
            sections.put(place[0], from >= 0 && upTo > from ? plain(document.substring(from + place[1].length(), upTo)) : "");
        }
        for (int promise = 1; promise <= 36; promise++) {
            int from = document.indexOf("## Promise " + promise + ":");
            int upTo = document.indexOf("\n## ", Math.max(0, from));
            CHECKS.due("the document has promise " + promise, from >= 0 && upTo > from, true);
            String text = from >= 0 && upTo > from ? document.substring(from, upTo) : "";
            // behind the head and the call as it is written in Java
            sections.put("Promise " + promise, plain(text.replaceFirst("(?s)^.*?`[^`]*`:", "")));
        }
        return sections;
    }

    private static void collect(String source, Map<String, List<String>> held) {
        Matcher call = HOLDS.matcher(source);
        int calls = 0;
        while (call.find()) {
            calls++;
            String sentence = call.group(2).trim().replaceAll("\"\\s*\\+\\s*\"", "").replaceAll("^\"|\"$", "");
            held.computeIfAbsent(call.group(1), where -> new ArrayList<>()).add(sentence);
        }
        CHECKS.due("sentences that can be read", calls, source.split("CHECKS\\.holds\\(", -1).length - 1);
    }

    /** The words of a section that are left when all that is held has been struck out. */
    private static String without(String section, List<String> sentences) {
        boolean[] struck = new boolean[section.length()];
        for (String sentence : sentences) {
            for (int at = section.indexOf(sentence); at >= 0; at = section.indexOf(sentence, at + 1)) {
                Arrays.fill(struck, at, at + sentence.length(), true);
            }
        }
        StringBuilder left = new StringBuilder();
        for (int i = 0; i < section.length(); i++) {
            left.append(struck[i] ? ' ' : section.charAt(i));
        }
        return left.toString().replaceAll("[^A-Za-z0-9]+", " ").trim();
    }
}
