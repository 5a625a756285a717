import java.io.IOException;
import java.nio.file.Files;
import java.nio.file.Path;
import java.util.ArrayList;
import java.util.Arrays;
import java.util.List;
import java.util.Map;
import java.util.TreeMap;

/**
 * Each sentence of the document that names a boundary case, with a test of its own; and whether the sentences stand in
 * the document, and all of it is among them: of "Terms" and the promises, no word may be left over.
 */
public final class SentenceTest {
    private static final Path DOCUMENT = Path.of("../shared/DOC.md");
    private static int wrong = 0;

    private static void tell(String what) {
        wrong++;
        System.out.println(what);
    }

    private static void runAll(Sentences sentences) {
        for (Sentences.Sentence s : sentences.all()) {
            for (String line : Script.run(s.script())) tell(s.heading() + " '" + s.words() + "': " + line);
        }
    }

    /** Headings with what stands under them, all blanks single. */
    private static Map<String, String> parts(String document) {
        Map<String, String> parts = new TreeMap<>();
        for (String part : document.split("\n## ")) {
            int end = part.indexOf('\n');
            parts.put(part.substring(0, end).strip(), part.substring(end).replace("```text", "").replace("```", "").replaceAll("\\s+", " "));
        }
        return parts;
    }

    private static void lookAtWords(Sentences sentences, Map<String, String> parts) {
        Map<String, boolean[]> told = new TreeMap<>();
        parts.forEach((heading, words) -> told.put(heading, new boolean[words.length()]));
        for (Sentences.Sentence s : sentences.all()) {
            String words = parts.getOrDefault(s.heading(), "");
            int at = words.indexOf(s.words());
            if (at < 0) tell("not in the document: " + s.heading() + " '" + s.words() + "'");
            else Arrays.fill(told.get(s.heading()), at, at + s.words().length(), true);
        }
        parts.forEach((heading, words) -> {
            if (heading.equals("Terms") || heading.startsWith("Promise ")) lookForMore(heading, words, told.get(heading));
        });
    }

    /** Heads of calls and of parts are no sentences. */
    private static void lookForMore(String heading, String words, boolean[] told) {
        StringBuilder left = new StringBuilder();
        for (int i = 0; i < told.length; i++) left.append(told[i] ? '|' : words.charAt(i));
        String more = left.toString().replaceAll("`[^`]*\\)`:", "").replaceAll("Ahead of the calls .*?the interface says: ---- [^.]*\\.", "")
            .replaceAll("======== \\d ", "");
        List<String> over = new ArrayList<>();
        for (String piece : more.split("\\|")) if (piece.matches(".*\\w.*")) over.add(piece.strip());
        if (!over.isEmpty()) tell("no test for these words: " + heading + " " + over);
    }

    public static void main(String[] args) throws IOException {
        Sentences sentences = new Sentences();
        TermSentences.addTo(sentences);
        BookSentences.addTo(sentences);
        FillingSentences.addTo(sentences);
        ToldSentences.addTo(sentences);
        runAll(sentences);
        if (Files.exists(DOCUMENT)) lookAtWords(sentences, parts(Files.readString(DOCUMENT)));
        System.out.println(sentences.all().size() + " sentences of the document tested, " + wrong + " things are not as due");
        if (wrong != 0) System.exit(1);
    }
}
