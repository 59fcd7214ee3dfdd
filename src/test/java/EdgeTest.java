/** Every sentence of the document that names an edge, by a test of its own; none may be left without one. */
public final class EdgeTest {
    public static void main(String[] args) throws Exception {
        Checks checks = new Checks();
        Document document = new Document();
        Edges[] all = {new TextEdges(checks, document), new WordEdges(checks, document),
            new DayEdges(checks, document), new AskEdges(checks, document), new KeepEdges(checks, document)};
        for (Edges edges : all) {
            edges.run();
        }
        for (int promise = 1; promise <= Document.PROMISES; promise++) {
            checks.holds("promise " + promise + " has a test", document.tests(promise));
        }
        for (String words : document.unquoted()) {
            checks.holds("a test quotes '" + words + "'", false);
        }
        checks.finish("EdgeTest");
    }
}
