/** The sentences on cases, on the image and on counts: Terms 3, promises 24 to 28. */
final class CaseSentences {
    private static final int LEAST = Integer.MIN_VALUE, MOST = Integer.MAX_VALUE;
    private static final int NONE = ArmpitLine.NONE, BAD = ArmpitLine.BAD, FULL = ArmpitLine.FULL, STATE = ArmpitLine.STATE;

    private CaseSentences() {
    }

    static void all() {
        fortyCases();
        marks();
        word();
        fewest();
        leastAsBits();
        notEvenByAll();
        shown();
        split();
        imageKeeps();
        menThatCameSince();
        image();
        back();
        backState();
        count();
        countBad();
    }

    private static void fortyCases() {
        Due.sentence("Terms 3", "CASES (40 at most, numbered from 0)");
        ArmpitLine x = new ArmpitLine();
        for (int c = 0; c < 39; c++) {
            Due.is("case " + c, x.shown(c, 1), c);
        }
        Due.is("one word", x.split(), 0);
        Due.is("case 39", x.shown(39, 0), 39);
        Due.is("it counts", x.split() > 0 ? 1 : 0, 1);
        Due.is("the 41st", x.shown(0, 0), FULL);
        Due.is("it does not count: case 0 is not of two words", x.split() > 0 ? 1 : 0, 1);
    }

    private static void marks() {
        Due.sentence("Terms 3", "MARKS (6, as bits)");
        ArmpitLine x = new ArmpitLine();
        Due.is("-1", x.shown(-1, 0), BAD);
        Due.is("0", x.shown(0, 0), 0);
        Due.is("63", x.shown(63, 0), 1);
        Due.is("64", x.shown(64, 0), BAD);
        Due.is("the least int", x.shown(LEAST, 0), BAD);
        Due.is("the greatest int", x.shown(MOST, 0), BAD);
        for (int mark = 1; mark <= 32; mark *= 2) {
            ArmpitLine y = new ArmpitLine();
            y.shown(0, 0);
            y.shown(mark, 1);
            Due.is("they are told apart by mark " + mark, y.split(), mark);
        }
    }

    private static void word() {
        Due.sentence("Terms 3", "and a WORD (0 .. 3).");
        ArmpitLine x = new ArmpitLine();
        Due.is("-1", x.shown(5, -1), BAD);
        Due.is("0", x.shown(5, 0), 0);
        Due.is("4", x.shown(5, 4), BAD);
        Due.is("the least int", x.shown(5, LEAST), BAD);
        Due.is("the greatest int", x.shown(5, MOST), BAD);
        Due.is("none of them came", x.split(), 0);
        Due.is("3", x.shown(5, 3), 1);
        Due.is("another word", x.split(), NONE);
    }

    /** SPLIT of cases that are told as marks and word by turns. */
    private static int splitOf(int... told) {
        ArmpitLine x = new ArmpitLine();
        for (int i = 0; i + 1 < told.length; i += 2) {
            x.shown(told[i], told[i + 1]);
        }
        return x.split();
    }

    private static void fewest() {
        Due.sentence("Terms 3", "SPLIT: the fewest MARKS such that CASES alike in these have one WORD");
        Due.is("no cases", splitOf(), 0);
        Due.is("one case", splitOf(63, 3), 0);
        Due.is("one word", splitOf(63, 3, 0, 3, 17, 3), 0);
        Due.is("one mark, though two others are less as bits", splitOf(35, 1, 1, 0, 2, 0, 0, 0), 32);
        Due.is("two marks, as neither does alone", splitOf(3, 1, 1, 0, 2, 0), 3);
        Due.is("three marks", splitOf(7, 1, 3, 0, 5, 0, 6, 0), 7);
        Due.is("all six", splitOf(63, 1, 62, 0, 61, 0, 59, 0, 55, 0, 47, 0, 31, 0), 63);
        Due.is("four words need two marks", splitOf(0, 0, 1, 1, 2, 2, 3, 3), 3);
    }

    private static void leastAsBits() {
        Due.sentence("Terms 3", "of like ones the least as bits");
        Due.is("any mark would do", splitOf(63, 1, 0, 0), 1);
        Due.is("any but the first", splitOf(62, 1, 0, 0), 2);
        Due.is("the last two", splitOf(48, 1, 0, 0), 16);
        Due.is("the last one", splitOf(32, 1, 0, 0), 32);
        Due.is("3, 5 and 6 would do", splitOf(0, 0, 3, 1, 5, 2), 3);
        Due.is("3 and 5 would do", splitOf(0, 0, 7, 1, 1, 2, 6, 3), 3);
        Due.is("5 and 6 would do", splitOf(0, 0, 3, 1, 5, 2, 4, 2), 5);
    }

    private static void notEvenByAll() {
        Due.sentence("Terms 3", "NONE: not even by all.");
        Due.is("alike in all marks", splitOf(5, 0, 5, 1), NONE);
        Due.is("alike in all but one", splitOf(5, 0, 4, 1), 1);
        Due.is("alike, and of one word", splitOf(5, 2, 5, 2), 0);
        Due.is("others between them", splitOf(5, 0, 1, 1, 2, 1, 5, 3), NONE);
    }

    private static void shown() {
        Due.sentence("Promise 24", "A CASE: its number.");
        ArmpitLine x = new ArmpitLine();
        Due.is("the first", x.shown(9, 2), 0);
        Due.is("the second, like the first", x.shown(9, 2), 1);
        Due.is("cases", x.count(5), 2);
        Due.sentence("Promise 24", "BAD");
        int[][] bad = {{-1, 0}, {64, 0}, {0, -1}, {0, 4}, {LEAST, LEAST}, {MOST, MOST}};
        for (int[] b : bad) {
            Due.is("shown(" + b[0] + ", " + b[1] + ")", x.shown(b[0], b[1]), BAD);
        }
        Due.is("none of them came", x.count(5), 2);
        Due.is("the least of all", x.shown(0, 0), 2);
        Due.is("the most of all", x.shown(63, 3), 3);
        Due.sentence("Promise 24", "FULL");
        for (int c = 4; c < 39; c++) {
            x.shown(0, 0);
        }
        Due.is("the 40th", x.shown(0, 0), 39);
        Due.is("the 41st", x.shown(0, 0), FULL);
        Due.is("forty are there", x.count(5), 40);
    }

    private static void split() {
        Due.sentence("Promise 25", "SPLIT (bits).");
        ArmpitLine x = new ArmpitLine();
        x.shown(0, 0);
        x.shown(40, 1);
        Due.is("mark 3", x.split(), 8);
        x.shown(8, 0);
        Due.is("mark 5", x.split(), 32);
        x.shown(32, 0);
        Due.is("both", x.split(), 40);
        Due.sentence("Promise 25", "NONE.");
        x.shown(41, 1);
        Due.is("both still", x.split(), 40);
        x.shown(40, 0);
        Due.is("none", x.split(), NONE);
    }

    /** Two men, two texts and an image of them; then all that it keeps is another one. */
    private static ArmpitLine changed() {
        ArmpitLine x = new ArmpitLine();
        x.man(1, 10, 1);
        x.man(2, 20, 2);
        for (int p = 0; p < 4; p++) {
            x.part(0, p, 30 + p);
            x.part(1, p, 40 + p);
        }
        x.width(5);
        x.image();
        for (int m = 0; m < 2; m++) {
            x.move(m, 0, 900 + m);
            x.move(m, 1, 90 + m);
            for (int p = 0; p < 4; p++) {
                x.part(m, p, 100 + p);
            }
        }
        x.width(6);
        Due.read(x, "count 1; near 1; play 1;");
        x.force(1);
        return x;
    }

    private static void imageKeeps() {
        Due.sentence("Terms 3", "AN IMAGE keeps PLACES, SPEEDS, PARTS of all MEN, WIDTH, THE RULE");
        ArmpitLine x = changed();
        Due.is("place now", x.front(1, 0, 2), 901);
        x.back();
        for (int m = 0; m < 2; m++) {
            Due.is("place of man " + m, x.move(m, 0, 0), 10 + 10 * m);
            Due.is("speed of man " + m, x.move(m, 1, 0), 1 + m);
            for (int p = 0; p < 4; p++) {
                Due.is("part " + p + " of man " + m, x.part(m, p, 0), 30 + 10 * m + p);
            }
        }
        Due.is("width", x.count(9), 5);
        Due.is("the rule", x.count(8), 0);
        ArmpitLine y = changed();
        y.image();
        y.force(0);
        y.back();
        Due.is("another rule", y.count(8), 1);
    }

    private static void menThatCameSince() {
        Due.sentence("Terms 3", "(MEN that came since stay as they are).");
        ArmpitLine x = changed();
        x.man(3, 77, 7);
        x.part(2, 0, 71);
        x.part(2, 1, 72);
        x.camera(1, 0, 0);
        x.crosser(0, 0);
        x.call(0, 2, 0, 0, 0);
        x.match(1, 0, 0);
        x.shown(1, 1);
        x.feed(3, 0);
        x.back();
        Due.is("he is there", x.count(0), 3);
        Due.is("the one ahead of him is as he was", x.front(1, 0, 2), 20);
        Due.is("his head", x.part(2, 0, 0), 71);
        Due.is("his shoulder", x.part(2, 1, 0), 72);
        Due.is("his place", x.move(2, 0, 0), 77);
        Due.is("his speed", x.move(2, 1, 0), 7);
        int[] due = {3, 1, 1, 1, 1, 1, 2, 3, 0, 5};
        for (int what = 0; what < due.length; what++) {
            Due.is("nothing else goes back: count(" + what + ")", x.count(what), due[what]);
        }
        ArmpitLine y = new ArmpitLine();
        y.image();
        y.man(0, 88, 8);
        y.back();
        Due.is("an image without men", y.front(0, 1, 2), 96);
    }

    private static void image() {
        Due.sentence("Promise 26", "AN IMAGE is kept: WIDTH.");
        ArmpitLine x = new ArmpitLine();
        Due.is("width 0", x.image(), 0);
        x.width(999);
        Due.is("width 999", x.image(), 999);
        Due.is("it is so still", x.count(9), 999);
        x.width(3);
        Due.is("the later one is kept", x.back(), 999);
        Due.is("again", x.image(), 999);
    }

    private static void back() {
        Due.sentence("Promise 27", "All is as in THE IMAGE: WIDTH.");
        ArmpitLine x = changed();
        Due.is("width", x.back(), 5);
        Due.is("front of man 0", x.front(0, 3, 0), 46);
        Due.is("front of man 1", x.front(1, 3, 0), 69);
        x.move(0, 0, 500);
        x.width(700);
        Due.is("a second time", x.back(), 5);
        Due.is("front of man 0 again", x.front(0, 3, 0), 46);
    }

    private static void backState() {
        Due.sentence("Promise 27", "STATE: there is none.");
        ArmpitLine x = new ArmpitLine();
        x.width(4);
        Due.is("none yet", x.back(), STATE);
        Due.is("the width stays", x.count(9), 4);
        x.image();
        x.width(5);
        Due.is("one", x.back(), 4);
        Due.is("it stays", x.back(), 4);
        Due.is("another object has none", new ArmpitLine().back(), STATE);
    }

    /** What count() is due to answer, from 0 on. */
    private static void counts(String when, ArmpitLine x, int... due) {
        for (int what = 0; what < due.length; what++) {
            Due.is(when + ": count(" + what + ")", x.count(what), due[what]);
        }
    }

    private static void count() {
        Due.sentence("Promise 28", "How many: 0 MEN, 1 CAMERAS, 2 CROSSERS, 3 CALLS, 4 MATCHES, 5 CASES, 6 TEXTS,"
                + " 7 bytes of THE TAPE, 8 THE RULE, 9 WIDTH.");
        ArmpitLine x = new ArmpitLine();
        counts("at first", x, 0, 0, 0, 0, 0, 0, 1, 0, 0, 0);
        x.man(0, 0, 0);
        x.man(0, 0, 0);
        x.camera(1, 0, 0);
        x.crosser(0, 0);
        x.call(0, 0, 1, 0, 0);
        x.match(1, 0, 0);
        x.shown(0, 0);
        Due.read(x, "count 1; near 1; play 1;");
        x.feed(1, 0);
        x.force(1);
        x.width(1);
        counts("one of each", x, 2, 1, 1, 1, 1, 1, 2, 1, 1, 1);
        fill(x);
        counts("full", x, 10, 4, 6, 24, 12, 40, 6, 160, 5, 999);
    }

    /** Each thing is put once more than it can be. */
    private static void fill(ArmpitLine x) {
        x.text();
        for (int n = 0; n < 40; n++) {
            x.shown(n, 0);
        }
        for (int n = 0; n < 24; n++) {
            x.call(0, 0, 1, n, 0);
        }
        for (int n = 0; n < 12; n++) {
            x.man(0, 0, 0);
            x.camera(1, 0, 0);
            x.crosser(0, 0);
            x.match(1, 0, 0);
        }
        for (int n = 0; n < 5; n++) {
            Due.read(x, "count 1; near 1; play 1;");
        }
        for (int n = 0; n < 20; n++) {
            x.feed(8, 0);
        }
        x.force(5);
        x.width(999);
    }

    private static void countBad() {
        Due.sentence("Promise 28", "BAD.");
        ArmpitLine x = new ArmpitLine();
        Due.is("-1", x.count(-1), BAD);
        Due.is("0", x.count(0), 0);
        Due.is("9", x.count(9), 0);
        Due.is("10", x.count(10), BAD);
        Due.is("the least int", x.count(LEAST), BAD);
        Due.is("the greatest int", x.count(MOST), BAD);
    }
}
