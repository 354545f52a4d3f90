/** The document, sentence by sentence: each has tests of its own that name it, and none is left out. */
public final class EdgesTest {
    public static void main(String[] args) {
        EdgesOfTexts.all();
        EdgesOfRaces.all();
        EdgesOfSeeds.all();
        EdgesOfTrials.all();
        EdgesOfMemory.all();
        Refusals.all();
        Edge.allWereNamed();
        Checks.finish("EdgesTest");
    }
}
