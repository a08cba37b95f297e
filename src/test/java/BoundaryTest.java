/**
 * Each sentence of the document that names a boundary case, with a test beside it; at the end all
 * words of the promises, of the terms and of the first section must have been quoted by a test.
 */
public final class BoundaryTest {
    public static void main(String[] args) {
        TextEdges.all();
        SymbolEdges.all();
        SquareEdges.all();
        DamageEdges.all();
        SheetEdges.all();
        ReadingEdges.all();
        StrawEdges.all();
        RefusalEdges.all();
        TextPromiseEdges.all();
        MarkPromiseEdges.all();
        DamagePromiseEdges.all();
        ReadingPromiseEdges.all();
        SheetPromiseEdges.all();
        Edge.finish("BoundaryTest");
    }
}
