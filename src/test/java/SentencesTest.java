import java.io.IOException;
import java.nio.file.Path;

/** Every sentence of the document's terms and promises, each under its own words: edges, refusals, and that it holds. */
public final class SentencesTest {
    private SentencesTest() {
    }

    public static void main(String[] args) throws IOException {
        Sentences s = new Sentences(Path.of("../shared/DOC.md"));
        TermsOfHouses.tryAll(s);
        TermsOfTapes.tryAll(s);
        TermsOfActs.tryAll(s);
        TermsOfWhatCanBe.tryAll(s);
        TermsOfTellingAndDraws.tryAll(s);
        PromisesOfShelves.tryAll(s);
        PromisesOfHouses.tryAll(s);
        PromisesOfActs.tryAll(s);
        PromisesOfComing.tryAll(s);
        PromisesOfLasting.tryAll(s);
        PromisesOfTelling.tryAll(s);
        PromisesOfKeeping.tryAll(s);
        if (!s.end()) {
            System.exit(1);
        }
    }
}
