/** For each sentence of the document that tells an edge, a test of its own, named by the promise and the sentence. */
public final class EdgesTest {
    private EdgesTest() {
    }

    public static void main(String[] args) throws Exception {
        Edge.open(args.length > 0 ? args[0] : ".");
        EdgesOfText.all();
        EdgesOfFrame.all();
        EdgesOfLaws.all();
        EdgesOfDrawer.all();
        EdgesOfSlots.all();
        Edge.dueAllNamed();
        Due.end("EdgesTest");
    }
}
