import java.nio.file.Files;
import java.nio.file.Path;
import java.util.LinkedHashMap;
import java.util.Map;

/**
 * The document's sentences, each tied to a test of its own: what a test quotes must stand in the document, and in the
 * end all of the document's terms and promises must have been quoted. So no sentence is left without a test unseen.
 */
final class Sentence {
    private static final Map<String, String> SECTIONS = new LinkedHashMap<>();
    private static final Map<String, boolean[]> QUOTED = new LinkedHashMap<>();
    private static String section = "";

    private Sentence() {
    }

    /** Reads the parts whose sentences bind: all but the face (LanguageTest) and what is not promised. */
    static void readDocument() throws Exception {
        String heading = "";
        StringBuilder body = new StringBuilder();
        for (String line : Files.readAllLines(Path.of("../shared/DOC.md"))) {
            if (line.startsWith("#")) {
                keep(heading, body);
                heading = line.replaceAll("^#+ ", "").replaceAll(":.*", "");
                body.setLength(0);
            } else if (!line.startsWith("```") && !line.startsWith("Ahead of the calls")) {
                body.append(' ').append(heading.startsWith("Promise") ? line.replaceAll("^`.*`:", "") : line);
            }
        }
        keep(heading, body);
    }

    private static void keep(String heading, StringBuilder body) {
        if (heading.equals("What it is") || heading.equals("Terms") || heading.startsWith("Promise")) {
            String text = plain(body.toString());
            SECTIONS.put(heading, text);
            QUOTED.put(heading, new boolean[text.length()]);
        }
    }

    private static String plain(String text) {
        return text.replace("`", "").replaceAll("\\s+", " ").trim();
    }

    static void section(String heading) {
        section = heading;
        Check.due("the document has " + heading, SECTIONS.containsKey(heading), true);
    }

    /** A sentence, or the part of one that has a boundary of its own, and its test. */
    static void says(String quote, Runnable test) {
        quote(quote);
        Check.within(section + ": " + quote);
        int before = Check.asked();
        test.run();
        Check.due("answers were asked", Check.asked() > before, true);
        Check.within("");
    }

    /** A sentence on which no answer hangs. */
    static void onlyTells(String quote) {
        quote(quote);
    }

    private static void quote(String quote) {
        String text = SECTIONS.getOrDefault(section, "");
        String sought = plain(quote);
        int at = text.indexOf(sought);
        Check.due(section + " says: " + quote, at >= 0, true);
        while (at >= 0) {
            for (int i = 0; i < sought.length(); i++) {
                QUOTED.get(section)[at + i] = true;
            }
            at = text.indexOf(sought, at + 1);
        }
    }

    static void allAreQuoted() {
        for (String heading : SECTIONS.keySet()) {
            String text = SECTIONS.get(heading);
            StringBuilder left = new StringBuilder();
            for (int i = 0; i < text.length(); i++) {
                left.append(QUOTED.get(heading)[i] ? ' ' : text.charAt(i));
            }
            String unquoted = plain(left.toString());
            Check.due(heading + " has without a test: " + unquoted, unquoted.isEmpty(), true);
        }
        Check.due("terms, what it is and 39 promises", SECTIONS.size(), 41);
    }
}
