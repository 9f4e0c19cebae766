import java.io.IOException;
import java.nio.file.Files;
import java.nio.file.Path;
import java.util.BitSet;
import java.util.LinkedHashMap;
import java.util.Map;
import java.util.regex.Matcher;
import java.util.regex.Pattern;

/** The document, in sections; it keeps which of its words tests have quoted. */
final class Doc {
    private static final Path PLACE = Path.of("..", "shared", "DOC.md");
    private static final Map<String, String> SECTIONS = read();
    private static final Map<String, BitSet> QUOTED = new LinkedHashMap<>();

    private Doc() {
    }

    private static Map<String, String> read() {
        String text;
        try {
            text = Files.readString(PLACE);
        } catch (IOException e) {
            throw new IllegalStateException("the tests want " + PLACE, e);
        }
        Map<String, String> sections = new LinkedHashMap<>();
        sections.put("What it is", part(text, "undoing, marks.", "## The public face"));
        sections.put("Term I", part(text, "\nI. ", "\nII. "));
        sections.put("Term II", part(text, "\nII. ", "\nIII. "));
        sections.put("Term III", part(text, "\nIII. ", "\nIV. "));
        sections.put("Term IV", part(text, "\nIV. ", "\nThe constants: "));
        sections.put("The constants", part(text, "\nThe constants: ", "\nAhead of the calls"));
        Matcher promise = Pattern.compile("## Promise (\\d+):[^\\n]*\\n+`[^`]*`: ([^\\n]*)").matcher(text);
        while (promise.find()) {
            sections.put("Promise " + promise.group(1), plain(promise.group(2)));
        }
        return sections;
    }

    private static String part(String text, String from, String to) {
        int start = text.indexOf(from);
        int end = text.indexOf(to, start + 1);
        return start < 0 || end < 0 ? "" : plain(text.substring(start + from.length(), end));
    }

    private static String plain(String text) {
        return text.replace("```text", " ").replace("```", " ").replaceAll("\\s+", " ").trim();
    }

    /** Whether a section has these words; they count as quoted from now on. */
    static boolean quote(String section, String words) {
        String text = SECTIONS.getOrDefault(section, "");
        int at = text.indexOf(words);
        if (at < 0) {
            return false;
        }
        QUOTED.computeIfAbsent(section, s -> new BitSet()).set(at, at + words.length());
        return true;
    }

    /** Every clause of every section must have been quoted, at least in part. */
    static void allQuoted() {
        Check.due("sections of the document", SECTIONS.size(), 54 + 6);
        for (Map.Entry<String, String> section : SECTIONS.entrySet()) {
            BitSet quoted = QUOTED.getOrDefault(section.getKey(), new BitSet());
            Matcher clause = Pattern.compile(".+?[^. ][.;:](?= |$)|.+$").matcher(section.getValue());
            while (clause.find()) {
                int next = quoted.nextSetBit(clause.start());
                boolean found = next >= 0 && next < clause.end();
                Check.due("a test is of " + section.getKey() + " \"" + clause.group().trim() + "\"", found, true);
            }
        }
    }
}
