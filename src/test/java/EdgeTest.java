import java.io.IOException;

/** The document, sentence by sentence: each edge that it names has a test of its own, which quotes its words. */
public final class EdgeTest {
    private EdgeTest() {
    }

    public static void main(String[] args) throws IOException {
        Doc.open();
        TextEdges.all();
        WayEdges.all();
        AskEdges.all();
        ToldEdges.all();
        Doc.allIsQuoted();
        Due.end();
    }
}
