import java.io.IOException;

/**
 * Promises 1 to 37 and the terms, sentence by sentence: each names the words of the document that it holds the
 * program to. Fails, too, if words are quoted that do not stand there, or words stand there that none quotes.
 */
public final class EdgesTest {
    public static void main(String[] args) throws IOException {
        Edges edges = new Edges();
        new EdgesOfTexts(edges).run();
        new EdgesOfYears(edges).run();
        new EdgesOfBuying(edges).run();
        new EdgesOfBonds(edges).run();
        new EdgesOfOutlook(edges).run();
        new EdgesOfLogs(edges).run();
        new EdgesOfRemnants(edges).run();
        edges.finish();
    }
}
