import java.io.IOException;
import java.nio.file.Files;
import java.nio.file.Path;
import java.util.BitSet;
import java.util.LinkedHashMap;
import java.util.Map;
import java.util.regex.Matcher;
import java.util.regex.Pattern;

/**
 * The words of the document that a test is named by. They must stand there, in the section that is told; and behind all
 * tests each mark of a bound, a fault, a refusal or of what stays must be within the words of some test.
 */
final class Sentence {
    private static final Pattern MARK = Pattern.compile("[0-9]+|NONE|false|FAULTS?|REFUSED|refused|\\bstays?\\b|\\bempty\\b"
            + "|\\b[Nn]one\\b|\\bnothing\\b|\\bno\\b|\\bmost\\b|\\bleast\\b|\\babove\\b|\\bbelow\\b|\\bbeyond\\b|modulo"
            + "|\\b[Ww]ithout\\b|can't|\\bneither\\b|\\bas many as can\\b");
    private static final String WHAT = "What it is";
    private static final Map<String, String> TEXTS = new LinkedHashMap<>();
    private static final Map<String, BitSet> TOLD = new LinkedHashMap<>();

    private Sentence() {
    }

    /** Reads the sections of the document by the first words of their headings. */
    static void open(String path) throws IOException {
        if (!Files.exists(Path.of(path))) {
            // The answers are tested all the same.
            System.out.println("no " + path + ": the words that tests are named by are not looked up");
            return;
        }
        for (String part : Files.readString(Path.of(path)).split("(?m)^## ")) {
            int end = Math.max(0, part.indexOf('\n'));
            String name = part.substring(0, end).replaceAll(":.*", "").trim();
            if (name.equals(WHAT) || name.equals("Terms") || name.startsWith("Promise ")) {
                TEXTS.put(name, part.substring(end));
                TOLD.put(name, new BitSet());
            }
        }
        Due.about("The document");
        Due.is("sections", TEXTS.size(), 34);
    }

    /** The answers from here on are those that these words of the document ask for. */
    static void of(String section, String words) {
        Due.about(section + ", \"" + words + "\"");
        if (TEXTS.isEmpty()) {
            return;
        }
        String text = TEXTS.getOrDefault(section, "");
        Due.is("how often the document says so", text.split(Pattern.quote(words), -1).length - 1, 1);
        int at = text.indexOf(words);
        if (at >= 0) {
            TOLD.get(section).set(at, at + words.length());
        }
    }

    static void end() {
        for (Map.Entry<String, String> each : TEXTS.entrySet()) {
            Due.about(each.getKey());
            String text = each.getValue();
            BitSet told = TOLD.get(each.getKey());
            Matcher mark = MARK.matcher(text);
            // What it is only names what the terms tell.
            while (!each.getKey().equals(WHAT) && mark.find()) {
                // The number of a part ("==== 2.") is none of the valley's.
                boolean isPart = mark.start() >= 5 && text.startsWith("==== ", mark.start() - 5);
                String near = text.substring(Math.max(0, mark.start() - 30), Math.min(text.length(), mark.end() + 30));
                Due.is("a test named by .." + near.replace('\n', ' ') + "..", isPart || told.get(mark.start()), true);
            }
        }
    }
}
