import java.io.IOException;
import java.nio.file.Files;
import java.nio.file.Path;
import java.util.ArrayList;
import java.util.Arrays;
import java.util.LinkedHashMap;
import java.util.List;
import java.util.Map;

/** The document's sections as plain lines of text, and which of their words a test has named. */
final class Doc {
    private static final Map<String, String> TEXTS = new LinkedHashMap<>();
    private static final Map<String, boolean[]> NAMED = new LinkedHashMap<>();

    private Doc() {
    }

    static void read(String path) throws IOException {
        String section = "";
        StringBuilder text = new StringBuilder();
        for (String line : Files.readAllLines(Path.of(path))) {
            if (line.startsWith("## ")) {
                keep(section, text.toString());
                section = line.substring(3).replaceAll("^(Promise [0-9]+):.*", "$1");
                text.setLength(0);
            } else if (!line.startsWith("```")) {
                text.append(line).append(' ');
            }
        }
        keep(section, text.toString());
    }

    private static void keep(String section, String text) {
        // Signatures and the signs of chapters are no sentences.
        String plain = text.replaceAll("`[^`]*`:?", " ").replaceAll("==== I+\\.", " ").replaceAll("\\s+", " ").trim();
        TEXTS.put(section, plain);
        NAMED.put(section, new boolean[plain.length()]);
    }

    /** Whether the section has these words; they are named from then on. */
    static boolean names(String section, String words) {
        String text = TEXTS.getOrDefault(section, "");
        int from = text.indexOf(words);
        boolean there = from >= 0;
        while (from >= 0) {
            Arrays.fill(NAMED.get(section), from, from + words.length(), true);
            from = text.indexOf(words, from + 1);
        }
        return there;
    }

    /** What is left of the terms and the promises that no test has named. */
    static List<String> unnamed() {
        List<String> left = new ArrayList<>();
        for (String section : TEXTS.keySet()) {
            if (section.equals("Terms") || section.startsWith("Promise ")) {
                String rest = rest(TEXTS.get(section), NAMED.get(section));
                if (rest.matches(".*[A-Za-z0-9].*")) {
                    left.add(section + ": " + rest);
                }
            }
        }
        return left;
    }

    private static String rest(String text, boolean[] named) {
        StringBuilder rest = new StringBuilder();
        for (int i = 0; i < text.length(); i++) {
            rest.append(named[i] ? ' ' : text.charAt(i));
        }
        return rest.toString().replaceAll("\\s+", " ").trim();
    }

    static int promises() {
        int many = 0;
        for (String section : TEXTS.keySet()) {
            many += section.startsWith("Promise ") ? 1 : 0;
        }
        return many;
    }
}
