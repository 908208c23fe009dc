import java.io.IOException;
import java.nio.charset.StandardCharsets;
import java.nio.file.Files;
import java.nio.file.Path;
import java.util.ArrayList;
import java.util.BitSet;
import java.util.LinkedHashMap;
import java.util.List;
import java.util.Map;

/**
 * The document's words, as the tests quote them: each quote has to stand there under its heading,
 * something has to be asked behind it, and in the end every word of the promises, and of the terms
 * that they rest on, has to be quoted by some test.
 */
final class Doc {
    private static final Path FILE = Path.of("../shared/DOC.md");
    private static final Map<String, String> TEXTS = read();
    private static final Map<String, BitSet> QUOTED = new LinkedHashMap<>();
    private static String latest = "";
    private static int askedBefore = 0;

    private Doc() {
    }

    private static Map<String, String> read() {
        Map<String, String> texts = new LinkedHashMap<>();
        if (!Files.exists(FILE)) {
            System.out.println("no document here: quotes are not looked at");
            return texts;
        }
        String heading = "";
        try {
            for (String line : Files.readAllLines(FILE, StandardCharsets.UTF_8)) {
                if (line.startsWith("## ")) {
                    heading = line.substring(3);
                } else if (!line.startsWith("```")) {
                    texts.merge(heading, line, (a, b) -> (a + " " + b).replaceAll(" +", " "));
                }
            }
        } catch (IOException e) {
            throw new IllegalStateException(e);
        }
        return texts;
    }

    /** All that stands under a heading; nothing, if there is no such one. */
    static String under(String heading) {
        return TEXTS.getOrDefault(heading, "");
    }

    /** What is asked from here on is what these words want. */
    static void says(String heading, String words) {
        somethingWasAsked();
        latest = heading + " [" + words + "]";
        Due.about(latest);
        String text = TEXTS.get(heading);
        if (text == null || !text.contains(words)) {
            Due.holds("the quote stands there", TEXTS.isEmpty());
            askedBefore = Due.asked();
            return;
        }
        BitSet quoted = QUOTED.computeIfAbsent(heading, h -> new BitSet());
        for (int at = text.indexOf(words); at >= 0; at = text.indexOf(words, at + 1)) {
            quoted.set(at, at + words.length());
        }
        askedBefore = Due.asked();
    }

    private static void somethingWasAsked() {
        if (!latest.isEmpty() && Due.asked() == askedBefore) {
            Due.holds("something is asked", false);
        }
    }

    /** Every word under these headings has been quoted. */
    static void end() {
        somethingWasAsked();
        Due.about("");
        for (Map.Entry<String, String> entry : TEXTS.entrySet()) {
            String heading = entry.getKey();
            if (heading.equals("Terms") || heading.startsWith("Promise ")) {
                for (String left : notQuoted(heading, entry.getValue())) {
                    Due.holds("under " + heading + " a test quotes [" + left + "]", false);
                }
            }
        }
    }

    private static List<String> notQuoted(String heading, String text) {
        BitSet quoted = QUOTED.getOrDefault(heading, new BitSet());
        List<String> left = new ArrayList<>();
        // Of a promise the face ahead of its words is for FaceTests.
        int at = heading.startsWith("Promise ") ? text.indexOf("`: ") + 3 : 0;
        while (at < text.length()) {
            int end = quoted.get(at) ? quoted.nextClearBit(at) : quoted.nextSetBit(at);
            end = end < 0 ? text.length() : Math.min(end, text.length());
            String part = text.substring(at, end);
            if (!quoted.get(at) && part.chars().anyMatch(Character::isLetterOrDigit)) {
                left.add(part);
            }
            at = end;
        }
        return left;
    }
}
