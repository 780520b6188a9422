import java.util.ArrayList;
import java.util.BitSet;
import java.util.LinkedHashMap;
import java.util.List;
import java.util.Map;

/** The document's prose by its sections, and which of its words the tests have quoted so far. */
final class Document {
    static final int PROMISES = 43;

    private final String text;
    private final Map<String, String> prose = new LinkedHashMap<>();
    private final Map<String, BitSet> quoted = new LinkedHashMap<>();

    Document(String text) {
        this.text = text.replace("```text", " ").replace("```", " ").replaceAll("\\s+", " ");
        section("What it is", "An object is used for", "## The public face");
        for (int i = 1; i <= 4; i++) {
            section("Terms " + i, "==== " + i + ".", "==== " + (i + 1) + ".");
        }
        section("Terms 5", "==== 5.", "What is refused answers");
        section("Terms, at their end", "What is refused answers", "## Promise 1:");
        for (int i = 1; i <= PROMISES; i++) {
            section("Promise " + i, "## Promise " + i + ":", i < PROMISES ? "## Promise " + (i + 1) + ":" : "## Not promised");
        }
    }

    private void section(String name, String start, String end) {
        int from = text.indexOf(start);
        int to = text.indexOf(end, from + 1);
        if (from < 0 || to < 0) {
            throw new IllegalStateException("the document has no section " + name);
        }
        String told = text.substring(from, to).trim();
        if (told.startsWith("==== ")) {
            told = told.substring("==== 1. ".length());
        }
        if (told.startsWith("## ")) {
            // Ahead of it stand the heading and how the method is declared.
            told = told.substring(told.indexOf("`: ") + "`: ".length());
        }
        prose.put(name, told);
        quoted.put(name, new BitSet());
    }

    /** Whether these words stand in a section, and just once; they are quoted from then on. */
    boolean quote(String section, String words) {
        String told = prose.getOrDefault(section, "");
        int at = told.indexOf(words);
        if (at < 0 || told.indexOf(words, at + 1) >= 0) {
            return false;
        }
        quoted.get(section).set(at, at + words.length());
        return true;
    }

    /** The words that no test has quoted. */
    List<String> unquoted() {
        List<String> all = new ArrayList<>();
        for (Map.Entry<String, String> section : prose.entrySet()) {
            String told = section.getValue();
            BitSet bits = quoted.get(section.getKey());
            for (int from = bits.nextClearBit(0); from < told.length(); from = bits.nextClearBit(from)) {
                int to = bits.nextSetBit(from);
                to = to < 0 ? told.length() : to;
                String words = told.substring(from, to).trim();
                if (words.matches(".*[A-Za-z0-9].*")) {
                    all.add(section.getKey() + ": " + words);
                }
                from = to;
            }
        }
        return all;
    }
}
