/** The document, sentence by sentence: each test names the promise and the sentence that it stands for. */
public final class SentencesTest {
    public static void main(String[] args) {
        TextSentences.all();
        FaultSentences.all();
        PartSentences.all();
        TableSentences.all();
        RoundSentences.all();
        WaySentences.all();
        BumpSentences.all();
        GridSentences.all();
        RefusedSentences.all();
        Sentence.heading("Ahead of the calls `grid`, `rows`, `after`, `count` the interface says: ---- on a grid.");
        Sentence.allNamed();
        Check.finish();
    }
}
