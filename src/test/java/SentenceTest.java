import java.io.IOException;

/** Runs the tests of all sentences that name a boundary case. */
public final class SentenceTest {
    public static void main(String[] args) throws IOException {
        Sentences s = new Sentences();
        TapeSentences.ask(s);
        TextSentences.ask(s);
        FaultSentences.ask(s);
        NetSentences.ask(s);
        RestSentences.ask(s);
        StepSentences.ask(s);
        FewSentences.ask(s);
        GiftSentences.ask(s);
        EdgeLieSentences.ask(s);
        ImageSentences.ask(s);
        s.finish();
    }
}
