import java.io.IOException;

/** The edges that the document names, sentence by sentence; each sentence has a test of its own, which quotes it. */
public final class EdgesTest {
    public static void main(String[] args) throws IOException {
        Edges edges = new Edges();
        EdgesOfText.run(edges);
        EdgesOfFaults.run(edges);
        EdgesOfTables.run(edges);
        EdgesOfWalks.run(edges);
        EdgesOfGuesses.run(edges);
        EdgesOfLandings.run(edges);
        EdgesOfChanges.run(edges);
        EdgesOfSheets.run(edges);
        edges.close();
    }
}
