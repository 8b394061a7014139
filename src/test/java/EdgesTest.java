import java.nio.file.Path;

/**
 * The document sentence by sentence: for each that names a boundary case the case itself and the
 * ordinary one beside it. Fails, too, if a sentence of the document has no test that quotes it.
 */
public final class EdgesTest {
    public static void main(String[] args) throws Exception {
        Edges edges = new Edges(new Document(Path.of("../shared/DOC.md")));
        new SettingEdges(edges).run();
        new NodeEdges(edges).run();
        new DataEdges(edges).run();
        new ChoiceEdges(edges).run();
        new ActionEdges(edges).run();
        new TickEdges(edges).run();
        new RangeEdges(edges).run();
        new UndoEdges(edges).run();
        edges.end();
    }
}
