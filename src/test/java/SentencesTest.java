import java.io.IOException;
import java.nio.file.Path;

/** Each sentence of the document's terms and promises has a test that quotes it; none is left without one. */
public final class SentencesTest {
    public static void main(String[] args) throws IOException {
        Check check = new Check("SentencesTest");
        Doc doc = new Doc(Path.of("../shared/DOC.md"));
        Sentences[] parts = {new SentencesTold(doc, check), new SentencesOfWays(doc, check),
            new SentencesOfChance(doc, check), new SentencesOfRules(doc, check)};
        for (Sentences part : parts) {
            part.run();
        }
        for (String rest : doc.unquoted()) {
            check.that("a test quotes " + rest, false);
        }
        check.end();
    }
}
