import java.io.IOException;

/**
 * Sentence by sentence: each test names the words of ../shared/DOC.md that it holds, and asks for an
 * answer just inside and just outside of the boundary that they tell. Words of the face, the terms and
 * the promises that no test names are printed, and fail.
 */
public final class SentencesTest {
    public static void main(String[] args) throws IOException {
        FaceSentences.all();
        MenSentences.all();
        CameraSentences.all();
        TextSentences.all();
        RuleSentences.all();
        CallSentences.all();
        WidthSentences.all();
        MatchSentences.all();
        CaseSentences.all();
        SheetSentences.all();
        RefusalSentences.all();
        everyWordIsNamed();
        Due.end();
    }

    private static void everyWordIsNamed() {
        Due.is("promises of the document", Doc.promises(), 33);
        for (String words : Doc.unnamed()) {
            Due.holds("no test names " + words, false);
        }
    }
}
