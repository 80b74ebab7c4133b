/** Every sentence of the document that names a boundary case, each with a test of its own. */
public final class EdgesTest {
    private EdgesTest() {
    }

    public static void main(String[] args) {
        if (args.length > 0 && args[0].equals("names")) {
            Edge.tellNames();
        }
        WorthsEdges.run();
        SharesEdges.run();
        VotesEdges.run();
        ClaimsEdges.run();
        TreesEdges.run();
        MarketEdges.run();
        DigestEdges.run();
        IntEdges.run();
        LastEdges.run();
        Edge.endAll("EdgesTest");
    }
}
