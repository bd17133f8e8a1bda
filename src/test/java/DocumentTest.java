import java.io.IOException;
import java.nio.file.Files;
import java.nio.file.Path;

/** The terms and the promises of the document, sentence by sentence. */
public final class DocumentTest {
    /** The second argument is the document's file. */
    public static void main(String[] args) throws IOException {
        Due due = new Due("DocumentTest");
        Sentences s = new Sentences(due);
        new TermSentences(s).all();
        new SettingUpSentences(s).all();
        new AskingSentences(s).all();
        s.end();
        if (args.length > 1) {
            s.complete(Path.of(args[1]));
        } 
        due.end();
    }
}
