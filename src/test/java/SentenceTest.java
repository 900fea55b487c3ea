import java.io.IOException;

/** Every sentence of the document that promises something, each with a test of its own that names it. */
public final class SentenceTest {
    private SentenceTest() {
    }

    public static void main(String[] args) throws IOException {
        Doc doc = new Doc();
        new CallSentences(doc).hold();
        new PageSentences(doc).hold();
        new PacketSentences(doc).hold();
        new SetupSentences(doc).hold();
        new BookSentences(doc).hold();
        new FaultSentences(doc).hold();
        new CurveSentences(doc).hold();
        new RestSentences(doc).hold();
        new SumSentences(doc).hold();
        System.exit(doc.close() == 0 ? 0 : 1);
    }
}
