/** Each sentence of the document that names a boundary case, by an edge of its own that names the sentence. */
public final class EdgesTest {
    public static void main(String[] args) throws Exception {
        Edge.open();
        EdgesOfRows.all();
        EdgesOfTexts.all();
        EdgesOfActs.all();
        EdgesOfLines.all();
        EdgesForetold.all();
        EdgesOfWritings.all();
        EdgesOfChance.all();
        EdgesAsked.all();
        EdgesRefused.all();
        Edge.nothingIsLeftOut();
        Due.end("EdgesTest");
    }
}
