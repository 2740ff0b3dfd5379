import java.nio.file.Path;

/**
 * For each sentence of the document's terms and promises, above all for those that name a boundary
 * case, a test of its own, which quotes it. Words that no test quotes are a failure, too.
 */
public final class BoundsTest {
    private BoundsTest() {
    }

    public static void main(String[] args) throws Exception {
        Document doc = new Document(Path.of(System.getProperty("doc", "../shared/DOC.md")));
        Bounds.start(doc);
        TermBounds.run();
        CrowdBounds.run();
        CallBounds.run();
        MeetingBounds.run();
        SearchBounds.run();
        NameBounds.run();
        ListenerBounds.run();
        KeptBounds.run();
        for (String place : doc.unquoted()) {
            Bounds.isTrue("no test quotes " + place, false);
        }
        if (!Bounds.finish()) {
            System.exit(1);
        }
    }
}
