import java.io.IOException;
import java.nio.file.Files;
import java.nio.file.Path;

/** Each sentence of the document by a test of its own; and that no sentence is left without one. */
public final class SentencesTest {
    public static void main(String[] args) throws IOException {
        SentencesOfBooks.all();
        SentencesOfTexts.all();
        SentencesOfWater.all();
        SentencesOfTheEnd.all();
        SentencesOfCalls.all();
        Path doc = Path.of("../shared/DOC.md");
        if (Files.exists(doc)) {
            Sentences.compareWith(doc);
        } else {
            Sentences.fails("the document is not where it should be");
        }
        System.out.println(Sentences.failures() == 0 ? Sentences.tests() + " sentences hold"
            : Sentences.failures() + " answers are not as due");
        if (Sentences.failures() != 0) {
            System.exit(1);
        }
    }
}
