import java.util.ArrayList;
import java.util.List;

/** Sentences of the document, each with the heading that it stands under and a script that tests it. */
final class Sentences {
    record Sentence(String heading, String words, String script) {
    }

    private final List<Sentence> all = new ArrayList<>();
    private String heading = "";

    void under(String newHeading) {
        heading = newHeading;
    }

    /** The words as they stand in the document: SentenceTest looks for them there. */
    void says(String words, String script) {
        all.add(new Sentence(heading, words, script));
    }

    List<Sentence> all() {
        return all;
    }
}
