/** The document sentence by sentence: each is named, and asked for at its boundaries. */
public final class SentencesTest {
    public static void main(String[] args) {
        AtFace.run();
        AtLaws.run();
        AtTexts.run();
        AtDraws.run();
        AtThrows.run();
        AtMeasures.run();
        AtLeans.run();
        AtTrials.run();
        AtPeople.run();
        AtWatchers.run();
        AtGames.run();
        AtImages.run();
        Doc.end();
        Due.end("SentencesTest");
    }
}
