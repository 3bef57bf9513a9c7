import java.io.IOException;
import java.nio.file.Files;
import java.nio.file.Path;
import java.util.Arrays;
import java.util.Map;
import java.util.TreeMap;

/** The document's promises (1 ..), its Terms and what it tells ahead of them, and which words a test has named. */
final class Sentences {
    static final int TERMS = 0;
    static final int ABOUT = 1000;
    private static final int NOTHING = -1;

    private final Map<Integer, String> texts = new TreeMap<>();
    private final Map<Integer, boolean[]> named = new TreeMap<>();

    Sentences(Path document) throws IOException {
        int part = NOTHING;
        StringBuilder text = new StringBuilder();
        for (String row : Files.readString(document).split("\n")) {
            if (row.startsWith("## ")) {
                keep(part, text.toString());
                text.setLength(0);
                part = partOf(row.substring(3));
            } else if (!row.startsWith("```")) {
                text.append(row).append(' ');
            }
        }
        keep(part, text.toString());
    }

    private static int partOf(String heading) {
        if (heading.equals("Terms")) {
            return TERMS;
        }
        if (heading.equals("What it is")) {
            return ABOUT;
        }
        return heading.startsWith("Promise ") ? Integer.parseInt(heading.substring(8, heading.indexOf(':'))) : NOTHING;
    }

    private void keep(int part, String text) {
        if (part != NOTHING) {
            // A promise begins with its signature between two `, which is no sentence.
            String plain = part == TERMS || part == ABOUT ? text : text.substring(text.indexOf('`', text.indexOf('`') + 1) + 1);
            String joined = plain.replaceAll("\\s+", " ").trim();
            texts.put(part, joined);
            named.put(part, new boolean[joined.length()]);
        }
    }

    /** False: these words do not stand there. */
    boolean name(int part, String words) {
        String text = texts.getOrDefault(part, "");
        int at = text.indexOf(words);
        boolean found = at >= 0;
        while (at >= 0) {
            Arrays.fill(named.get(part), at, at + words.length(), true);
            at = text.indexOf(words, at + 1);
        }
        return found;
    }

    /** Words of a part that no test has named; empty: there are none. */
    String unnamed(int part) {
        String text = texts.get(part);
        boolean[] seen = named.get(part);
        StringBuilder left = new StringBuilder();
        for (int i = 0; i < text.length(); i++) {
            boolean gap = seen[i] || !Character.isLetterOrDigit(text.charAt(i));
            if (!gap) {
                int from = i;
                while (i + 1 < text.length() && !seen[i + 1]) {
                    i++;
                }
                left.append('[').append(text, from, i + 1).append("] ");
            }
        }
        return left.toString();
    }

    Iterable<Integer> parts() {
        return texts.keySet();
    }
}
