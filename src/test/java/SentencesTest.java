import java.io.IOException;
import java.nio.file.Files;
import java.nio.file.Path;

/** Each sentence of the document by itself: its first argument is the program, its second the document. */
public final class SentencesTest {
    private SentencesTest() {
    }

    public static void main(String[] args) throws IOException {
        SentencesOfTexts.tell();
        SentencesOfPeaks.tell();
        SentencesOfActs.tell();
        SentencesOfLogs.tell();
        SentencesOfQuestions.tell();
        SentencesOfScripts.tell();
        SentencesOfRefusals.tell();
        Sentences.runAll(new Document(Files.readString(Path.of(args[1]))));
        Checks.close("SentencesTest");
    }
}
