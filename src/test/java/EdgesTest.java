import java.io.IOException;

/** The document read sentence by sentence: each one is quoted, and has a test of its own. */
public final class EdgesTest {
    public static void main(String[] args) throws IOException {
        Check check = new Check();
        Document document = new Document(check);
        Runner runner = new Runner(check);
        new EdgesOfTerms(document, runner).all();
        new EdgesOfAnswers(document, runner, new Runner(check), check).all();
        new EdgesOfPromises(document, runner).all();
        document.rest();
        check.end();
    }
}
