/** Every sentence of the document that names an edge: the last value within, the first beyond, what is refused. */
public final class EdgesTest {
    private EdgesTest() {
    }

    public static void main(String[] args) {
        TextEdges.run();
        StepEdges.run();
        ActEdges.run();
        AskEdges.run();
        LandCallEdges.run();
        WayCallEdges.run();
        RoadCallEdges.run();
        Due.same("the document has its Terms and 34 promises", Doc.sections(), 35);
        Due.same("words of the document that no test is about", Doc.unquoted(), "");
        Due.close();
    }
}
