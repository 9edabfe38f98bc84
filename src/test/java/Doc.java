import java.io.IOException;
import java.nio.charset.StandardCharsets;
import java.nio.file.Files;
import java.nio.file.Path;
import java.util.ArrayList;
import java.util.BitSet;
import java.util.List;
import java.util.Map;
import java.util.TreeMap;

/** The words of the document, by promise (0: the terms), and which of them a test has quoted. */
final class Doc {
    static final int TERMS = 0;
    private static final Path DOCUMENT = Path.of("../shared/DOC.md");

    private final Map<Integer, String> texts = new TreeMap<>();
    private final Map<Integer, BitSet> quoted = new TreeMap<>();

    Doc() {
        try {
            read(Files.readAllLines(DOCUMENT, StandardCharsets.UTF_8));
        } catch (IOException e) {
            throw new IllegalStateException("the document isn't at " + DOCUMENT, e);
        }
    }

    private void read(List<String> lines) {
        int section = -1;
        for (String line : lines) {
            if (line.startsWith("## ")) {
                section = sectionOf(line);
            } else if (section >= 0 && !line.startsWith("```") && !line.startsWith("Ahead of the calls")) {
                texts.merge(section, bare(line), (a, b) -> squeeze(a + " " + b));
            }
        }
        for (int s : texts.keySet()) {
            quoted.put(s, new BitSet());
        }
    }

    private static int sectionOf(String title) {
        if (title.equals("## Terms")) {
            return TERMS;
        }
        return title.startsWith("## Promise ") ? Integer.parseInt(title.replaceAll("## Promise (\\d+):.*", "$1")) : -1;
    }

    /** A line without the numbers of parts and without a call's signature. */
    private static String bare(String line) {
        return squeeze(line.replaceAll("==== \\d\\.", "").replaceAll("^`(int |GroupLimits)[^`]*`: ", ""));
    }

    private static String squeeze(String text) {
        return text.trim().replaceAll("\\s+", " ");
    }

    /** Whether the document says this there, word by word; it is quoted then. */
    boolean says(int section, String words) {
        String text = texts.getOrDefault(section, "");
        int at = text.indexOf(words);
        if (at < 0) {
            return false;
        }
        quoted.get(section).set(at, at + words.length());
        return true;
    }

    /** What no test has quoted. */
    List<String> unquoted() {
        List<String> list = new ArrayList<>();
        for (Map.Entry<Integer, String> entry : texts.entrySet()) {
            BitSet marks = quoted.get(entry.getKey());
            String text = entry.getValue();
            for (int from = marks.nextClearBit(0); from < text.length(); ) {
                int end = marks.nextSetBit(from);
                int to = end < 0 ? text.length() : end;
                String words = text.substring(from, to);
                if (words.matches(".*[A-Za-z0-9].*")) {
                    list.add((entry.getKey() == TERMS ? "terms" : "promise " + entry.getKey()) + ": " + words.trim());
                }
                from = marks.nextClearBit(to);
            }
        }
        return list;
    }
}
