/** The document's words one by one, boundary cases above all: each has a test of its own. */
public final class EdgesTest {
    private EdgesTest() {
    }

    public static void main(String[] args) {
        TextEdges.run();
        ChangeEdges.run();
        HandsetEdges.run();
        LongRunEdges.run();
        Edge.end();
    }
}
