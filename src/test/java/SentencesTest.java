/** The document read sentence by sentence, each with a test of its own. */
public final class SentencesTest {
    public static void main(String[] args) {
        SentencesOfRoofs.all();
        SentencesOfHours.all();
        SentencesOfThought.all();
        SentencesOfTexts.all();
        SentencesOfSheets.all();
        SentencesOfImages.all();
        SentencesOfRefusals.all();
        Document.everySentenceIsQuoted();
        Due.end();
    }
}
