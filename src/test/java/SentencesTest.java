/**
 * The document sentence by sentence: each test quotes the words of the section that it is about, and at the end no word
 * of the description and of the promises may be left that no test has quoted.
 */
public final class SentencesTest {
    private SentencesTest() {
    }

    public static void main(String[] args) {
        BoxSentences.run();
        TextSentences.run();
        LettingDownSentences.run();
        SeenSentences.run();
        PackingSentences.run();
        PlayingSentences.run();
        ChangesSentences.run();
        CountSentences.run();
        Sentence.checkThatAllAreAnswered();
        Document.checkThatAllIsQuoted();
        Check.end();
    }
}
