/** Counts and prints the calls whose answers are not the ones that are due. */
final class Due {
    private static int wrong = 0;
    private static int asked = 0;
    private static int sentences = 0;
    private static int askedBefore = 0;
    private static String sentence = "";

    private Due() {
    }

    /** What is asked from here on holds these words of the document; they must stand there. */
    static void sentence(String where, String words) {
        closeSentence();
        sentences++;
        sentence = where + " \"" + words + "\": ";
        if (!Doc.name(where, words)) {
            wrong++;
            System.out.println(sentence + "these words do not stand there");
        }
        askedBefore = asked;
    }

    /** A sentence that is named, but asks for nothing, is not held. */
    private static void closeSentence() {
        if (!sentence.isEmpty() && asked == askedBefore) {
            wrong++;
            System.out.println(sentence + "nothing is asked");
        }
        sentence = "";
    }

    static void is(String call, long got, long want) {
        asked++;
        if (got != want) {
            wrong++;
            System.out.println(sentence + call + " answered " + got + ", due is " + want);
        }
    }

    static void holds(String what, boolean held) {
        is(what, held ? 1 : 0, 1);
    }

    static void end() {
        closeSentence();
        String of = sentences > 0 ? " under " + sentences + " sentences" : "";
        System.out.println(asked + " answers asked" + of + ", " + wrong + " not as due");
        if (wrong != 0 || asked == 0) {
            System.exit(1);
        }
    }

    /** Feeds a text to the tape, eight bytes at a time. */
    static void feed(ArmpitLine x, String text) {
        for (int i = 0; i < text.length(); i += 8) {
            int n = Math.min(8, text.length() - i);
            long bytes = 0;
            for (int k = 0; k < n; k++) {
                bytes |= (long) (text.charAt(i + k) & 255) << (8 * k);
            }
            x.feed(n, bytes);
        }
    }

    /** What text() answers for a text on an empty tape. */
    static int read(ArmpitLine x, String text) {
        feed(x, text);
        return x.text();
    }

    /** Makes a text the rule. */
    static void rule(ArmpitLine x, String text) {
        int number = read(x, text);
        is("text \"" + text + "\" is one", number >= 0 ? 1 : number, 1);
        x.force(number);
    }

    /** Makes a sheet of ints of these numbers. */
    static void ints(ArmpitLine x, int sheet, int... numbers) {
        x.sheet(sheet, 2, numbers.length);
        for (int i = 0; i < numbers.length; i++) {
            x.cell(sheet, i, numbers[i]);
        }
    }
}
