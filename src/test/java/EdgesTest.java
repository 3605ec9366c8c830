import java.io.IOException;
import java.nio.file.Path;
import java.util.List;

/** A test of its own for each sentence of the document that names a boundary case. Run from the repository's root. */
public final class EdgesTest {
    /** What the document says beside, with no boundary in it that a call could show. */
    private static final List<String> WITHOUT_BOUNDARY = List.of(
        "A bay of modules that are joined by cords: blocks of samples go through rows of five kinds, in the order that the"
            + " cords give; a loop passes a delay; a block in which a module fails leaves nothing behind. ====",
        "what later calls answer is free.",
        "====",
        "KINDS: 0 SOURCE, 1 SHAPE, 2 FILTER, 3 SLOW, 4 LATE, 5 MIX, 6 DELAY, 7 GATE, 8 TURN, 9 SWITCH, 10 MEAN.",
        "Ahead of the calls `keep`, `recall`, `take`, `equal` the interface says: ---- presets and takes.");

    public static void main(String[] args) throws IOException {
        Sentences doc = new Sentences(Path.of("../shared/DOC.md"));
        EdgesOfSetup.all(doc);
        EdgesOfBlocks.all(doc);
        EdgesOfKinds.all(doc);
        EdgesOfShapes.all(doc);
        EdgesOfKeeping.all(doc);
        EdgesOfQuestions.all(doc);
        doc.end(WITHOUT_BOUNDARY);
    }
}
