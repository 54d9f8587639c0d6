import java.io.IOException;

/** The edges that the document names, sentence by sentence: its terms, then its promises 1 to 35. */
public final class EdgesTest {
    public static void main(String[] args) throws IOException {
        Sentences s = new Sentences();
        EdgesOfTerms.look(s);
        EdgesOfRefusals.look(s);
        EdgesOfTexts.look(s);
        EdgesOfWires.look(s);
        EdgesOfPictures.look(s);
        EdgesOfPrograms.look(s);
        EdgesOfGuesses.look(s);
        EdgesOfSheets.look(s);
        s.finish();
    }
}
