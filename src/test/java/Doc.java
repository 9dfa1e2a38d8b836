import java.io.IOException;
import java.nio.file.Files;
import java.nio.file.Path;
import java.util.ArrayList;
import java.util.BitSet;
import java.util.List;
import java.util.Map;
import java.util.TreeMap;
import java.util.regex.Matcher;
import java.util.regex.Pattern;

/** The document, to quote from: which words stand where, and which of them no test has quoted. */
final class Doc {
    /** Of a promise the section is its number. */
    static final int TERMS = 0;
    static final int WHAT_IT_IS = -1;
    static final int PROMISES = 37;

    private static final Path PLACE = Path.of("../shared/DOC.md");

    private final Map<Integer, String> sections = new TreeMap<>();
    private final Map<Integer, BitSet> quoted = new TreeMap<>();

    Doc() throws IOException {
        if (Files.isReadable(PLACE)) {
            split(Files.readString(PLACE));
        }
    }

    boolean isThere() {
        return !sections.isEmpty();
    }

    private void split(String all) {
        Matcher head = Pattern.compile("(?m)^## (What it is|Terms|Promise (\\d+): .*)$").matcher(all);
        while (head.find()) {
            int end = all.indexOf("\n## ", head.end());
            String body = all.substring(head.end(), end < 0 ? all.length() : end);
            String number = head.group(2);
            int section = number != null ? Integer.parseInt(number) : head.group(1).equals("Terms") ? TERMS : WHAT_IT_IS;
            sections.put(section, plain(body));
            quoted.put(section, new BitSet());
        }
    }

    /** Without fences, a paragraph's number and a promise's signature: what is left are the sentences. */
    private static String plain(String body) {
        return body.replaceAll("(?m)^```.*$", "").replaceAll("(?m)^\\d\\. ", "")
            .replaceFirst("^\\s*`[^`]*`:", "").replaceAll("\\s+", " ").trim();
    }

    /** Whether the words stand in the section; wherever they do, they are quoted then. */
    boolean quote(int section, String words) {
        String text = sections.getOrDefault(section, "");
        int at = text.indexOf(words);
        boolean found = at >= 0;
        while (at >= 0) {
            quoted.get(section).set(at, at + words.length());
            at = text.indexOf(words, at + 1);
        }
        return found;
    }

    /** The stretches with a letter or a digit that no quotation has. */
    List<String> unquoted() {
        List<String> left = new ArrayList<>();
        for (int section = TERMS; section <= PROMISES; section++) {
            String text = sections.getOrDefault(section, "");
            BitSet seen = quoted.getOrDefault(section, new BitSet());
            for (int from = seen.nextClearBit(0); from < text.length(); from = seen.nextClearBit(from)) {
                int next = seen.nextSetBit(from);
                int to = next < 0 ? text.length() : next;
                String stretch = text.substring(from, to);
                if (stretch.matches(".*[A-Za-z0-9].*")) {
                    left.add((section == TERMS ? "Terms" : "Promise " + section) + ": " + stretch);
                }
                from = to;
            }
        }
        return left;
    }
}
