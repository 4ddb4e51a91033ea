/**
 * The sentences of the document that name a limit, an end, or a call that is refused: each has a test of its own,
 * at the limit, beyond it on either side, empty, full, and that a refused call changes nothing.
 */
public final class EdgeTest extends Check {
    private EdgeTest() {
    }

    public static void main(String[] args) {
        TextEdges.run();
        NightEdges.run();
        BestEdges.run();
        LeftEdges.run();
        end("EdgeTest");
    }
}
