import java.nio.file.Path;
import java.util.List;
import java.util.Set;

/**
 * Each sentence of the document that names a boundary, by a test of its own: at the boundary, just
 * inside it, just outside it, and what is left behind a call that is refused.
 */
public final class EdgeTest {
    /** What only leads to a sentence, or says no more than a signature. */
    private static final Set<String> WITHOUT_EDGE = Set.of(
            "A store of one table, column by column.", "what later calls answer is free.",
            "Its calls: one adds columns, then rows value by value;",
            "rows come into frames, each column of a frame in whichever of five forms takes the fewest bytes;",
            "frames are clustered and merged, rows deleted and changed, columns indexed;",
            "then one states conditions, finds rows, orders, groups and pairs what was found, and looks at what it "
                    + "cost: which frames were passed over by their zones, where bitmaps, runs or dictionaries did "
                    + "the work, and how many values had to be looked at.",
            "All numbers are whole.", "2 FORMS.", "Its bytes would be in the form", "3 CONDITIONS.", "4 THE PLAN.",
            "see bytes()).", "Returns that of the group.", "Returns d.");
    private static final String PARAMETER = "- `\\w+`: (a|the|its) [\\w ]+";

    public static void main(String[] args) {
        Check check = new Check();
        Document document = new Document(Path.of("../shared/DOC.md"));
        List<Edges> all = List.of(new TableEdges(), new FrameEdges(), new AskedEdges(), new FormEdges(),
                new PlanEdges(), new SearchEdges(), new ResultEdges(), new WouldBeEdges());
        all.forEach(edges -> edges.runAll(check, document));
        for (String sentence : document.untold()) {
            boolean isNoEdge = WITHOUT_EDGE.contains(sentence) || sentence.matches(PARAMETER);
            check.due("'" + sentence + "' has a test of its own", isNoEdge, true);
        }
        check.end("EdgeTest");
    }
}
