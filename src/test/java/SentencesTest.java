/**
 * Sentence by sentence: each test names the words of ../shared/DOC.md that it holds, and asks for an
 * answer just inside and just outside of the boundary that they tell. Words of the terms and the
 * promises that no test names are printed, and fail.
 */
public final class SentencesTest {
    /** The headings of the interface tell of no call's answer. */
    private static final String[] HEADINGS = {
        "Ahead of the calls `man`, `part`, `move`, `front`, `camera`, `frame`, `sees`, `crosser` the interface says:"
            + " ---- men, cameras, crossers.",
        "Ahead of the calls `feed`, `text`, `force`, `says`, `width` the interface says: ---- texts.",
        "Ahead of the calls `call`, `told`, `offside` the interface says: ---- calls.",
        "Ahead of the calls `wrong`, `best`, `match`, `table`, `season`, `stand` the interface says: ---- widths, matches.",
        "Ahead of the calls `shown`, `split`, `image`, `back`, `count` the interface says: ---- cases.",
        "Ahead of the calls `sheet`, `cell`, `copy`, `men`, `taken` the interface says: ---- the host."};

    public static void main(String[] args) {
        MenSentences.all();
        CameraSentences.all();
        TextSentences.all();
        RuleSentences.all();
        CallSentences.all();
        WidthSentences.all();
        MatchSentences.all();
        CaseSentences.all();
        SheetSentences.all();
        RefusalSentences.all();
        everyWordIsNamed();
        Due.end();
    }

    private static void everyWordIsNamed() {
        Due.is("promises of the document", Doc.promises(), 33);
        for (String heading : HEADINGS) {
            Doc.name("Terms 4", heading);
        }
        for (String words : Doc.unnamed()) {
            Due.holds("no test names " + words, false);
        }
    }
}
