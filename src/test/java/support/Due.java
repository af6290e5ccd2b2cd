/** Counts and prints the calls whose answers are not the ones that are due. */
final class Due {
    private static int wrong = 0;
    private static int asked = 0;

    private Due() {
    }

    static void is(String call, long got, long want) {
        asked++;
        if (got != want) {
            wrong++;
            System.out.println(call + " answered " + got + ", due is " + want);
        }
    }

    static void holds(String what, boolean held) {
        is(what, held ? 1 : 0, 1);
    }

    static void end() {
        System.out.println(asked + " answers asked, " + wrong + " not as due");
        if (wrong != 0 || asked == 0) {
            System.exit(1);
        }
    }

    /** Feeds a text to the tape, eight bytes at a time. */
    static void feed(ArmpitLine x, String text) {
        for (int i = 0; i < text.length(); i += 8) {
            int n = Math.min(8, text.length() - i);
            long bytes = 0;
            for (int k = 0; k < n; k++) {
                bytes |= (long) (text.charAt(i + k) & 255) << (8 * k);
            }
            x.feed(n, bytes);
        }
    }

    /** What text() answers for a text on an empty tape. */
    static int read(ArmpitLine x, String text) {
        feed(x, text);
        return x.text();
    }

    /** Makes a sheet of ints of these numbers. */
    static void ints(ArmpitLine x, int sheet, int... numbers) {
        x.sheet(sheet, 2, numbers.length);
        for (int i = 0; i < numbers.length; i++) {
            x.cell(sheet, i, numbers[i]);
        }
    }
}
