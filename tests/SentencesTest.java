import java.nio.file.Path;
import java.util.List;

/**
 * For each sentence of the document that names a boundary a test of its own, under its own words:
 * words that the document doesn't have, and words of it that no test quotes, are told as faults.
 */
public final class SentencesTest {
    public static void main(String[] args) throws Exception {
        Check check = new Check("SentencesTest");
        Quotes quotes = new Quotes(Path.of("../shared/DOC.md"));
        List<Sentences> groups = List.of(
                new TextSentences(check, quotes),
                new TapeSentences(check, quotes),
                new OrderSentences(check, quotes),
                new SupposedSentences(check, quotes),
                new ChoiceSentences(check, quotes),
                new CompareSentences(check, quotes),
                new ActSentences(check, quotes));
        for (Sentences group : groups) {
            group.all();
        }
        for (String part : List.of("Terms", "Promise ")) {
            for (String left : quotes.unquoted(part)) {
                check.due("words that no test quotes, " + left, 1, 0);
            }
        }
        check.finish();
    }
}
