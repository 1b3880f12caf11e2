import java.io.IOException;
import java.nio.file.Files;
import java.nio.file.Path;
import java.util.BitSet;
import java.util.Map;
import java.util.TreeMap;

/**
 * The document's sentences, each with a test of its own: says() names the words that the next answers are due by.
 * Words that no test names, and names that the document doesn't say, are counted as answers that are not as due.
 */
final class Edges {
    private static final Path DOCUMENT = Path.of("../shared/DOC.md");

    private final Due due = new Due("EdgesTest");
    /** What stands under each heading: "T1" .. "T3" of the Terms, "1" .. "29" of the promises; "0" ahead of them. */
    private final Map<String, String> texts = new TreeMap<>();
    private final Map<String, BitSet> named = new TreeMap<>();
    private String now = "";
    private int answers = 1;

    /** Where no document lies beside the project, the edges are tested all the same. */
    Edges() throws IOException {
        if (Files.exists(DOCUMENT)) read();
        else System.out.println("EdgesTest: no " + DOCUMENT + ": its words are not looked for");
    }

    private void read() throws IOException {
        String under = "";
        for (String line : Files.readString(DOCUMENT).split("\n")) {
            if (line.startsWith("## ")) under = heading(line);
            if (line.startsWith("==== ")) under = "T" + line.charAt(5);
            if (line.startsWith("An object is used")) texts.put("0", line);
            if (under.isEmpty() || line.startsWith("## ") || line.startsWith("```") || line.startsWith("Ahead of")) continue;
            texts.merge(under, line.replaceFirst("^==== \\d ", "").replaceFirst("^`[^`]*`: ", "") + " ", String::concat);
        }
        for (String key : texts.keySet()) {
            texts.put(key, texts.get(key).replaceAll("\\s+", " ").trim());
            named.put(key, new BitSet());
        }
    }

    private static String heading(String line) {
        return line.startsWith("## Promise ") ? line.substring(11, line.indexOf(':')) : "";
    }

    /** The words, under a heading, that the next answers are due by. */
    void says(String under, String words) {
        if (answers == 0) due.is("a test of: " + now, 0, 1);
        now = under + " '" + words + "'";
        answers = 0;
        if (texts.isEmpty()) return;
        String text = texts.getOrDefault(under, "");
        int at = text.indexOf(words);
        due.is("the document says " + now, at >= 0 ? 1 : 0, 1);
        for (; at >= 0; at = text.indexOf(words, at + 1)) named.get(under).set(at, at + words.length());
    }

    void is(String call, long got, long want) {
        answers++;
        due.is(now + ": " + call, got, want);
    }

    /** Ends the test; all that the document says must have been named. */
    void end() {
        if (answers == 0) due.is("a test of: " + now, 0, 1);
        if (!texts.isEmpty()) due.is("headings", texts.size(), 1 + 3 + 29);
        for (String under : texts.keySet()) {
            String text = texts.get(under);
            StringBuilder open = new StringBuilder();
            for (int i = 0; i < text.length(); i++) {
                if (!named.get(under).get(i)) open.append(text.charAt(i));
            }
            due.is("no test of " + under + ": " + open.toString().trim(), open.toString().isBlank() ? 1 : 0, 1);
        }
        due.end();
    }
}
