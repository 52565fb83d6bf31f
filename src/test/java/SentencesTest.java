/**
 * The document sentence by sentence: each test quotes the words of the section that it is about, and at the end no word
 * from the first line to the last promise may be left that no test has quoted.
 */
public final class SentencesTest {
    private SentencesTest() {
    }

    public static void main(String[] args) {
        WholeSentences.run();
        BoxSentences.run();
        TextSentences.run();
        LettingDownSentences.run();
        SeenSentences.run();
        PackingSentences.run();
        PlayingSentences.run();
        ChangesSentences.run();
        CountSentences.run();
        Sentence.checkThatAllAreAnswered();
        Document.checkThatAllIsQuoted();
        Check.end();
    }
}
