import java.io.IOException;
import java.nio.file.Files;
import java.nio.file.Path;
import java.util.ArrayList;
import java.util.List;
import java.util.regex.Matcher;
import java.util.regex.Pattern;

/** What is tested, sentence by sentence of the document, and which answers were not as due. */
final class Sheet {
    private static final Path DOCUMENT = Path.of("../shared/DOC.md");

    /** The terms, and what stands behind each promise's heading and call. */
    private static final Pattern PARTS = Pattern.compile("## Terms (.*?) The constants:|## Promise [^`]*`[^`]*`: (.*?) (?=##)");

    private final String document;
    private final boolean[] quoted;
    private final List<String> unmet = new ArrayList<>();
    private String sentence = "";
    private int sentences = 0;
    private long answers = 0;

    Sheet() throws IOException {
        document = Files.readString(DOCUMENT).replaceAll("```(text|java)?", " ").replaceAll("\\s+", " ");
        quoted = new boolean[document.length()];
    }

    /** What follows tests this sentence, which must stand in the document just so. */
    void says(String words) {
        sentence = words;
        sentences++;
        int at = document.indexOf(words);
        if (at < 0) wrong("the document does not say that");
        while (at >= 0) {
            for (int i = 0; i < words.length(); i++) quoted[at + i] = true;
            at = document.indexOf(words, at + 1);
        }
    }

    void wrong(String what) {
        unmet.add("'" + sentence + "': " + what);
    }

    void due(String call, long got, long want) {
        answers++;
        if (got != want) wrong(call + " answered " + got + ", due is " + want);
    }

    void due(Desk desk, long got, long want) {
        answers++;
        if (got != want) wrong(desk.lately() + " answered " + got + ", due is " + want);
    }

    Desk desk() {
        return new Desk(this);
    }

    Desk told(String text) {
        return new Desk(this).told(text);
    }

    /** Every word of the terms and of each promise must have been quoted by then. */
    void allIsQuoted() {
        sentence = "all sentences have a test";
        int parts = 0;
        Matcher m = PARTS.matcher(document);
        while (m.find()) {
            parts++;
            int group = m.group(1) != null ? 1 : 2;
            StringBuilder rest = new StringBuilder();
            for (int i = m.start(group); i < m.end(group); i++) rest.append(quoted[i] ? '\n' : document.charAt(i));
            for (String piece : rest.toString().split("\n+")) {
                if (piece.matches(".*[A-Za-z].*")) wrong("nothing tests '" + piece.trim() + "'");
            }
        }
        due("how many parts the document has", parts, 30);
    }

    int end(String name) {
        for (int i = 0; i < unmet.size() && i < 60; i++) System.out.println(name + ": " + unmet.get(i));
        System.out.println(name + ": " + sentences + " sentences, " + answers + " answers, "
            + (unmet.isEmpty() ? "all as due" : unmet.size() + " not as due"));
        return unmet.isEmpty() ? 0 : 1;
    }
}
