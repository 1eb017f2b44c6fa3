import java.io.IOException;
import java.nio.file.Files;
import java.nio.file.Path;
import java.util.BitSet;
import java.util.LinkedHashMap;
import java.util.Map;
import java.util.regex.Matcher;
import java.util.regex.Pattern;

/**
 * The words of the document that a test is named by. They must stand there, in the section that is told; and behind all
 * tests each word and each number of these sections must be within the words of some test.
 */
final class Sentence {
    private static final Pattern WORD = Pattern.compile("[A-Za-z0-9]+");
    /** Fences of what is set as a text or as Java, and the numbers of parts. */
    private static final Pattern MARKUP = Pattern.compile("```[a-z]*|==== [0-9]\\.");
    private static final String NOT_PROMISED = "Not promised";
    private static final Map<String, String> TEXTS = new LinkedHashMap<>();
    private static final Map<String, BitSet> TOLD = new LinkedHashMap<>();

    private Sentence() {
    }

    /** Reads the sections of the document by the first words of their headings. */
    static void open(String path) throws IOException {
        if (!Files.exists(Path.of(path))) {
            // The answers are tested all the same.
            System.out.println("no " + path + ": the words that tests are named by are not looked up");
            return;
        }
        for (String part : Files.readString(Path.of(path)).split("(?m)^## ")) {
            int end = Math.max(0, part.indexOf('\n'));
            String name = part.substring(0, end).replaceAll(":.*", "").trim();
            // The first part is the document's name alone, and of what is not promised no test can tell.
            if (!part.startsWith("# ") && !name.equals(NOT_PROMISED)) {
                TEXTS.put(name, part.substring(end));
                TOLD.put(name, new BitSet());
            }
        }
        Due.about("The document");
        Due.is("sections", TEXTS.size(), 35);
    }

    /** What a section says; empty without the document. */
    static String text(String section) {
        return TEXTS.getOrDefault(section, "");
    }

    /** The answers from here on are those that these words of the document ask for. */
    static void of(String section, String words) {
        Due.about(section + ", \"" + words + "\"");
        if (TEXTS.isEmpty()) {
            return;
        }
        String text = text(section);
        Due.is("how often the document says so", text.split(Pattern.quote(words), -1).length - 1, 1);
        int at = text.indexOf(words);
        if (at >= 0) {
            TOLD.get(section).set(at, at + words.length());
        }
    }

    static void end() {
        for (Map.Entry<String, String> each : TEXTS.entrySet()) {
            Due.about(each.getKey());
            String text = each.getValue();
            BitSet told = TOLD.get(each.getKey());
            Matcher markup = MARKUP.matcher(text);
            while (markup.find()) {
                told.set(markup.start(), markup.end());
            }
            Matcher word = WORD.matcher(text);
            while (word.find()) {
                String near = text.substring(Math.max(0, word.start() - 30), Math.min(text.length(), word.end() + 30));
                Due.is("a test named by .." + near.replace('\n', ' ') + "..", told.get(word.start()), true);
            }
        }
    }
}
