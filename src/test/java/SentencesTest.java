/** Each sentence of the document's "Terms" and promises has a test of its own. */
public final class SentencesTest {
    public static void main(String[] args) throws Exception {
        Sentences s = new Sentences();
        TermsSentences.tell(s);
        RulesSentences.tell(s);
        BalloonsSentences.tell(s);
        BagsSentences.tell(s);
        WindsSentences.tell(s);
        PilotsSentences.tell(s);
        HoursSentences.tell(s);
        TextsSentences.tell(s);
        UndoSentences.tell(s);
        s.finish();
    }
}
