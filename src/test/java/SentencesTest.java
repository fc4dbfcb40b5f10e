import java.io.IOException;
import java.nio.file.Files;
import java.nio.file.Path;

/** For each sentence of the document a test of its own; and no sentence of it is without one. */
public final class SentencesTest {
    private static final Path DOCUMENT = Path.of("../shared/DOC.md");

    public static void main(String[] args) throws IOException {
        Due due = new Due("SentencesTest");
        Doc doc = Files.isReadable(DOCUMENT) ? new Doc(DOCUMENT) : null;
        Quoted q = new Quoted(due, doc);
        new FirstSentences(q).all();
        new TextSentences(q).all();
        new LawSentences(q).all();
        new WouldBeSentences(q).all();
        new HeldSentences(q).all();
        q.nothingOpen();
        if (doc != null) {
            for (String rest : doc.unquoted()) {
                due.is("a test quotes \"" + rest + "\"", false, true);
            }
        }
        due.end();
    }
}
