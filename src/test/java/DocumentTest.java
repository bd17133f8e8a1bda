import java.io.IOException;
import java.nio.file.Files;
import java.nio.file.Path;

/** The terms and the promises of the document, sentence by sentence. It is run where the project's README.md is. */
public final class DocumentTest {
    private static final Path DOCUMENT = Path.of("..", "shared", "DOC.md");

    public static void main(String[] args) throws IOException {
        Due due = new Due("DocumentTest");
        Sentences s = new Sentences(due);
        TextSentences texts = new TextSentences(s);
        new TermSentences(s).all();
        texts.texts();
        new SettingUpSentences(s).all();
        new AskingSentences(s).all();
        new ForecastSentences(s).all();
        texts.promises();
        new UndoSentences(s).all();
        if (Files.isReadable(DOCUMENT)) {
            s.complete(DOCUMENT);
        } else {
            s.end();
            System.out.println("DocumentTest: there is no " + DOCUMENT + ", so its sentences were not compared with these");
        }
        due.end();
    }
}
