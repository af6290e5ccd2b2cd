/** The sentences on the tape, on how texts are read and where their faults are: Terms 1, promises 10 and 11. */
final class TextSentences {
    private static final int LEAST = Integer.MIN_VALUE, MOST = Integer.MAX_VALUE;
    private static final int BAD = ArmpitLine.BAD, FULL = ArmpitLine.FULL;
    private static final int FINE = -1;
    private static final String BEHIND = ";near 0;play 1;";
    private static final long BLANKS = 0x2020202020202020L;

    private TextSentences() {
    }

    static void all() {
        tape();
        longTokens();
        words();
        numbers();
        signs();
        blanks();
        wholeText();
        ors();
        ands();
        nots();
        sums();
        terms();
        ones();
        namesAndKeys();
        firstFault();
        endTooEarly();
        noToken();
        strangeWord();
        longNumber();
        fiveOpen();
        tillTheyEnd();
        feed();
        feedBad();
        feedFull();
        text();
        longTexts();
        textFault();
        textFull();
    }

    /** The fault of a text: its place, or FINE. */
    private static void fault(String text, int place) {
        ArmpitLine x = new ArmpitLine();
        Due.is("text of \"" + text.replace('\n', '~') + "\"", Due.read(x, text), place == FINE ? 1 : -100 - place);
    }

    /** The fault of the first E of a text, by its place in the E. */
    private static void faultIn(String e, int place) {
        fault("count " + e + BEHIND, place == FINE ? FINE : 6 + place);
    }

    private static void tape() {
        Due.sentence("Terms 1", "A TEXT is read from THE TAPE (160 bytes at most).");
        Due.is("a text of 159 bytes", readPadded(159, 1), 1);
        Due.is("a text of 160 bytes", readPadded(160, 1), 1);
        Due.is("a text of 161 bytes has lost its last one: it ends too early", readPadded(161, 1), -260);
        fault(";".repeat(160), 0);
        fault("count(((((" + ")".repeat(150), 10);
        fault("count 1" + BEHIND + "(".repeat(138), 22);
    }

    /** Blanks, then a text, so many bytes in all and so many at a time. */
    private static int readPadded(int size, int atATime) {
        String text = "count 1" + BEHIND;
        String all = " ".repeat(size - text.length()) + text;
        ArmpitLine x = new ArmpitLine();
        for (int i = 0; i < all.length(); i += atATime) {
            x.feed(atATime, all.charAt(i));
        }
        return x.text();
    }

    private static void longTokens() {
        Due.sentence("Terms 1", "TOKENS, each as long as can be:");
        faultIn("part or 1", FINE);
        faultIn("partor 1", 0);
        faultIn("not1", FINE);
        faultIn("notoff", 0);
        faultIn("1or 1", FINE);
        faultIn("123 + 4", FINE);
        faultIn("123 4", 4);
        faultIn("1234", FINE);
        faultIn("12345", 0);
        fault("count 1;near 0;playplay 1;", 15);
        fault("count1;near0;play1;", FINE);
    }

    private static void words() {
        Due.sentence("Terms 1", "WORDS (a .. z)");
        faultIn("part", FINE);
        faultIn("part`", 4);
        faultIn("part{", 4);
        faultIn("partz", 0);
        faultIn("parta", 0);
        faultIn("Part", 0);
        faultIn("parT", 0);
        faultIn("part_", 4);
        faultIn("`", 0);
        faultIn("{", 0);
    }

    private static void numbers() {
        Due.sentence("Terms 1", "NUMBERS (as many digits as stand there, 4 at most)");
        faultIn("0", FINE);
        faultIn("9", FINE);
        faultIn("9999", FINE);
        faultIn("99999", 0);
        faultIn("0000", FINE);
        faultIn("00000", 0);
        faultIn("/", 0);
        faultIn(":", 0);
        faultIn("1/", 1);
        faultIn("1:", 1);
        ArmpitLine x = new ArmpitLine();
        x.man(0, 0, 0);
        Due.rule(x, "count 9876; near 0012; play 1234 + 0;");
        Due.is("9876", x.says(0, 0, 0, 0), 9876);
        Due.is("0012", x.says(0, 0, 0, 1), 12);
        Due.is("1234", x.says(0, 0, 0, 2), 1234);
    }

    private static void signs() {
        Due.sentence("Terms 1", "SIGNS ( ) ; + - * < =");
        faultIn("(1)", FINE);
        faultIn("1+1", FINE);
        faultIn("1-1", FINE);
        faultIn("1*1", FINE);
        faultIn("1<1", FINE);
        faultIn("1=1", FINE);
        // behind a 1 and ahead of a 1 these stand, and no other byte: a ; ends the E, a ( and a ) can't stand there
        String fine = "+-*<=0123456789";
        for (int b = 0; b < 256; b++) {
            boolean isBlank = b == 32 || b == 10;
            faultIn("1" + (char) b + "1", isBlank ? 2 : fine.indexOf(b) >= 0 ? FINE : b == ';' ? 2 : 1);
        }
    }

    private static void blanks() {
        Due.sentence("Terms 1", "blanks (32, 10) may stand between.");
        String spread = "\n count \n 1 \n\n ; near\n0\n;  play 1 ; \n";
        fault(spread, FINE);
        fault("count 1;near 0;play 1;", FINE);
        faultIn("part\n< \n1", FINE);
        for (int b : new int[] {0, 9, 11, 12, 13, 31, 33, 127, 160, 255}) {
            faultIn("part " + (char) b + " < 1", 5);
        }
        faultIn("1 2", 2);
        faultIn("pa rt", 0);
        fault("   ", 3);
    }

    private static void wholeText() {
        Due.sentence("Terms 1", "TEXT: count E ; near E ; play E ;");
        fault("count 1 ; near 1 ; play 1 ;", FINE);
        fault("count 1 ; near 1 ; play 1", 25);
        fault("count 1 ; near 1 ; play 1 ; ;", 28);
        fault("count 1 ; near 1 ; play 1 ; count 1 ;", 28);
        fault("near 1 ; count 1 ; play 1 ;", 0);
        fault("count 1 ; play 1 ; near 1 ;", 10);
        fault("count 1 ; near 1 ; near 1 ;", 19);
        fault("count 1 ; near 1 ;", 18);
        fault("count 1 near 1 ; play 1 ;", 8);
        fault("count ; near 1 ; play 1 ;", 6);
        fault("count 1 ; near ; play 1 ;", 15);
        fault("count 1 ; near 1 ; play ;", 24);
        fault("1 ; near 1 ; play 1 ;", 0);
        fault("", 0);
    }

    private static void ors() {
        Due.sentence("Terms 1", "E: AND { or AND }.");
        faultIn("1", FINE);
        faultIn("1 or 1", FINE);
        faultIn("1 or 1 or 1", FINE);
        faultIn("1 or", 4);
        faultIn("or 1", 0);
        faultIn("1 or or 1", 5);
        worth("0 or 0", 0);
        worth("0 or 1", 1);
        worth("1 or 1 and 0", 1);
        worth("0 and 1 or 1", 1);
    }

    private static void ands() {
        Due.sentence("Terms 1", "AND: NOT { and NOT }.");
        faultIn("not 1 and not 1", FINE);
        faultIn("1 and 1 and 1", FINE);
        faultIn("1 and", 5);
        faultIn("and 1", 0);
        faultIn("1 and and 1", 6);
        faultIn("1 and or 1", 6);
        worth("1 and 1", 1);
        worth("1 and 0", 0);
        worth("1 and 1 and 0", 0);
        worth("not 1 and 0", 0);
        worth("not (1 and 0)", 1);
    }

    private static void nots() {
        Due.sentence("Terms 1", "NOT: not NOT, or SUM, perhaps < or = and a SUM.");
        faultIn("not not 1", FINE);
        faultIn("not", 3);
        faultIn("1 < 2", FINE);
        faultIn("1 = 2", FINE);
        faultIn("1 < 2 < 3", 6);
        faultIn("1 = 2 = 3", 6);
        faultIn("1 < 2 = 3", 6);
        faultIn("(1 < 2) < 3", FINE);
        faultIn("1 < not 2", 4);
        faultIn("1 < (not 2)", FINE);
        faultIn("1 <", 3);
        faultIn("< 1", 0);
        faultIn("= 1", 0);
        worth("not 1 < 0", 1);
        worth("(not 1) < 0", 0);
        worth("not 0 = 0", 0);
        worth("not not 7", 1);
    }

    private static void sums() {
        Due.sentence("Terms 1", "SUM: TERM { + or - TERM }.");
        faultIn("1 + 1 - 1", FINE);
        faultIn("1 +", 3);
        faultIn("+ 1", 0);
        faultIn("1 + + 1", 4);
        faultIn("1 + - 1", FINE);
        faultIn("1 + not 1", 4);
        faultIn("1 < 1 + 1", FINE);
        worth("10 - 3 - 2", 5);
        worth("10 - 3 + 2", 9);
        worth("10 - (3 + 2)", 5);
        worth("1 + 1 < 2", 0);
        worth("1 + 1 = 2", 1);
    }

    private static void terms() {
        Due.sentence("Terms 1", "TERM: ONE { * ONE }.");
        faultIn("1 * 1 * 1", FINE);
        faultIn("1 *", 3);
        faultIn("* 1", 0);
        faultIn("1 * * 1", 4);
        faultIn("1 * + 1", 4);
        faultIn("1 * - 1", FINE);
        faultIn("1 * not 1", 4);
        worth("1 + 2 * 3", 7);
        worth("(1 + 2) * 3", 9);
        worth("2 * 3 * 4", 24);
        worth("2 * 3 - 1", 5);
    }

    private static void ones() {
        Due.sentence("Terms 1", "ONE: a NUMBER, a NAME, - ONE, ( E ).");
        faultIn("1", FINE);
        faultIn("part", FINE);
        faultIn("- 1", FINE);
        faultIn("- - 1", FINE);
        faultIn("- not 1", 2);
        faultIn("-", 1);
        faultIn("- + 1", 2);
        faultIn("(1 or 1)", FINE);
        faultIn("(1", 2);
        faultIn("(1))", 3);
        faultIn("1)", 1);
        faultIn("()", 1);
        faultIn(")", 0);
        faultIn("1 (", 2);
        faultIn("part 1", 5);
        faultIn("1 part", 2);
        worth("- 2 - 3", -5);
        worth("- (2 - 3)", 1);
        worth("- 2 * 3", -6);
        worth("2 * - 3", -6);
    }

    private static void namesAndKeys() {
        Due.sentence("Terms 1", "NAMES are part off speed team tick width");
        for (String name : new String[] {"part", "off", "speed", "team", "tick", "width"}) {
            faultIn(name, FINE);
            faultIn(name + "s", 0);
            faultIn(name.substring(0, name.length() - 1), 0);
            faultIn(name.substring(1), 0);
            faultIn("x" + name.substring(1), 0);
            faultIn(name.substring(0, name.length() - 1) + "x", 0);
        }
        faultIn("side", 0);
        Due.sentence("Terms 1", "count, near, play, or, and, not are KEYS.");
        for (String key : new String[] {"count", "near", "play", "or", "and"}) {
            faultIn(key, 0);
            faultIn("1 + " + key, 4);
        }
        faultIn("not", 3);
        faultIn("1 + not", 4);
        for (String key : new String[] {"count", "near", "play", "not"}) {
            faultIn("1 " + key + " 1", 2);
        }
        faultIn("1 or 1", FINE);
        faultIn("1 and 1", FINE);
        faultIn("not 1", FINE);
    }

    private static void firstFault() {
        Due.sentence("Terms 1", "FAULT: the place of the first byte of the first TOKEN that can't stand there");
        fault("count 1;near 0;play 1; or", 23);
        fault("count 1;near 0;play 1;or", 22);
        fault("or count 1;near 0;play 1;", 0);
        faultIn("1 width", 2);
        faultIn("1  width", 3);
        faultIn("1 width ? 99999 xyz", 2);
        faultIn("1 + ) + ? ", 4);
        faultIn("part + speeds * ?", 7);
    }

    private static void endTooEarly() {
        Due.sentence("Terms 1", "(the text's size, if it ends too early)");
        String whole = "count 1 ; near 1 ; play 1 ;";
        for (int size = 0; size < whole.length(); size++) {
            String cut = whole.substring(0, size);
            boolean isInWord = cut.matches(".*[a-z]") && !cut.matches(".*(count|near|play)");
            fault(cut, isInWord ? cut.replaceAll("[a-z]+$", "").length() : size);
        }
        fault(whole, FINE);
        fault("count 1 ; near 1 ; play 1   ", 28);
        fault("count (1", 8);
        fault("count not ", 10);
        fault("count 1 <", 9);
    }

    private static void noToken() {
        Due.sentence("Terms 1", "also of a byte that begins none");
        for (int b = 0; b < 256; b++) {
            boolean begins = b >= 'a' && b <= 'z' || b >= '0' && b <= '9' || "();+-*<= \n".indexOf(b) >= 0;
            if (!begins) {
                faultIn("1 + " + (char) b, 4);
            }
        }
        fault("count 1;near 0;play 1;?", 22);
        fault("?", 0);
        fault("count 1;near 0;play 1;", FINE);
    }

    private static void strangeWord() {
        Due.sentence("Terms 1", "a WORD that is neither KEY nor NAME");
        faultIn("1 + part", FINE);
        faultIn("1 + p", 4);
        faultIn("1 + par", 4);
        faultIn("1 + parts", 4);
        faultIn("1 + partpart", 4);
        faultIn("1 + widthwidth", 4);
        faultIn("1 o 1", 2);
        faultIn("1 orr 1", 2);
        faultIn("nott 1", 0);
        fault("counts 1;near 0;play 1;", 0);
        fault("coun 1;near 0;play 1;", 0);
        fault("count 1;nearly 0;play 1;", 8);
    }

    private static void longNumber() {
        Due.sentence("Terms 1", "a NUMBER that is too long");
        faultIn("1 + 9999", FINE);
        faultIn("1 + 10000", 4);
        faultIn("1 + 00001", 4);
        faultIn("1 + 0001", FINE);
        faultIn("1 + 4294967297", 4);
        faultIn("1 + 18446744073709551617", 4);
    }

    private static void fiveOpen() {
        Due.sentence("Terms 1", "a ( , a not, a - ahead of a ONE while 5 of these are open");
        faultIn("(((((1)))))", FINE);
        faultIn("((((((1))))))", 5);
        faultIn("not not not not not 1", FINE);
        faultIn("not not not not not not 1", 20);
        faultIn("- - - - - 1", FINE);
        faultIn("- - - - - - 1", 10);
        faultIn("not -(-(1))", FINE);
        faultIn("not -(-((1)))", 8);
        faultIn("not -(-(-1))", 8);
        faultIn("((((not 1))))", FINE);
        faultIn("(((((not 1)))))", 5);
        faultIn("((((-1))))", FINE);
        faultIn("(((((-1)))))", 5);
        faultIn("(((((1 - 1)))))", FINE);
        faultIn("(((((1 - - 1)))))", 9);
        faultIn("not not not not not 1 - 1", FINE);
        fault("count 1;near (((((1)))));play not not not not not 1;", FINE);
        fault("count 1;near ((((((1))))));play 1;", 18);
        fault("count 1;near 1;play not not not not not not 1;", 40);
    }

    private static void tillTheyEnd() {
        Due.sentence("Terms 1", "(a ( till its ) , not and - till what they belong to ends)");
        faultIn("(((((1))))) + (((((1)))))", FINE);
        faultIn("((((1) + (1))))", FINE);
        faultIn("((((1) + ((1)))))", FINE);
        faultIn("((((1) + (((1))))))", 11);
        faultIn("not not not not not 1 and not 1", FINE);
        faultIn("not not not not not 1 or not 1", FINE);
        faultIn("not not not not not 1 < -1", 24);
        faultIn("not not not not -1 < -1", FINE);
        faultIn("not not not not not 1 and -1 < -1", FINE);
        faultIn("- - - - - 1 * - 1", FINE);
        faultIn("- - - - - 1 + - 1", FINE);
        faultIn("- - - - (1 * - 1)", 13);
        faultIn("- - - (1 * - 1)", FINE);
        faultIn("- - - - (1) * - (- (1))", FINE);
        faultIn("not not not not 1 < (1)", FINE);
        faultIn("not not not not 1 < ((1))", 21);
    }

    private static void feed() {
        Due.sentence("Promise 10", "The n lowest bytes of a number, the lowest first, come behind THE TAPE: how many it has.");
        ArmpitLine x = new ArmpitLine();
        Due.is("one byte", x.feed(1, -1), 1);
        Due.is("two more", x.feed(2, BLANKS), 3);
        Due.is("eight more", x.feed(8, BLANKS), 11);
        Due.is("count", x.count(7), 11);
        Due.is("the first one is 255", x.text(), -100);
        x.feed(4, 0x7a202020L);
        Due.is("the fourth of four is a z", x.text(), -103);
        x.feed(3, 0x7a202020L);
        Due.is("the fourth of three does not come", x.text(), -103);
        x.feed(4, 0x2020207aL);
        Due.is("the lowest is the first", x.text(), -100);
        x.feed(8, 0x8020202020202020L);
        Due.is("the eighth of a number below 0", x.text(), -107);
        x.feed(7, 0xff20202020202020L);
        Due.is("the eighth of seven does not come", x.text(), -107);
    }

    private static void feedBad() {
        Due.sentence("Promise 10", "BAD: n is not 1 .. 8.");
        ArmpitLine x = new ArmpitLine();
        Due.is("n 0", x.feed(0, BLANKS), BAD);
        Due.is("n 1", x.feed(1, BLANKS), 1);
        Due.is("n 8", x.feed(8, BLANKS), 9);
        Due.is("n 9", x.feed(9, BLANKS), BAD);
        Due.is("n -1", x.feed(-1, BLANKS), BAD);
        Due.is("the least int", x.feed(LEAST, BLANKS), BAD);
        Due.is("the greatest int", x.feed(MOST, BLANKS), BAD);
        Due.is("nine are there", x.count(7), 9);
    }

    private static void feedFull() {
        Due.sentence("Promise 10", "FULL.");
        ArmpitLine x = new ArmpitLine();
        for (int k = 0; k < 19; k++) {
            x.feed(8, BLANKS);
        }
        Due.is("155 bytes", x.feed(3, BLANKS), 155);
        Due.is("six more are too many", x.feed(6, BLANKS), FULL);
        Due.is("none of them came", x.count(7), 155);
        Due.is("five more are not", x.feed(5, BLANKS), 160);
        Due.is("one more is", x.feed(1, BLANKS), FULL);
        Due.is("it is the tape that ends", x.text(), -260);
        Due.is("then there is room", x.feed(8, BLANKS), 8);
    }

    private static void text() {
        Due.sentence("Promise 11", "THE TAPE, which is empty then (by a FAULT, too), is a TEXT: its number");
        ArmpitLine x = new ArmpitLine();
        x.man(0, 0, 0);
        Due.feed(x, "count 3;near 0;play 1;");
        Due.is("22 bytes", x.count(7), 22);
        Due.is("text 1", x.text(), 1);
        Due.is("none is left", x.count(7), 0);
        Due.is("two texts", x.count(6), 2);
        Due.feed(x, "count 1 1");
        Due.is("9 bytes", x.count(7), 9);
        Due.is("a fault", x.text(), -108);
        Due.is("none is left by a fault, too", x.count(7), 0);
        Due.is("two texts still", x.count(6), 2);
        Due.is("text 2", Due.read(x, "count 4;near 0;play 1;"), 2);
        Due.is("text 0 rules till one is forced", x.says(0, 1, 0, 0), 1);
        x.force(2);
        Due.is("text 2 is the later one", x.says(0, 1, 0, 0), 4);
        x.force(1);
        Due.is("text 1 is the earlier one", x.says(0, 1, 0, 0), 3);
    }

    /** Five texts of 140 bytes, a fault ahead of each: none has anything of those ahead of it. */
    private static void longTexts() {
        Due.sentence("Promise 11", "THE TAPE, which is empty then (by a FAULT, too), is a TEXT");
        ArmpitLine x = new ArmpitLine();
        x.man(0, 0, 0);
        for (int t = 1; t < 6; t++) {
            Due.is("a fault", Due.read(x, "count 1" + "+1".repeat(50) + "+"), -208);
            Due.is("text " + t, Due.read(x, "count 1" + "+1".repeat(20 + t) + ";near 2" + "+2".repeat(30) + ";play 3;"), t);
            x.force(t);
            Due.is("count by text " + t, x.says(0, 0, 0, 0), 21 + t);
            Due.is("near by text " + t, x.says(0, 0, 0, 1), 62);
            Due.is("play by text " + t, x.says(0, 0, 0, 2), 3);
        }
    }

    private static void textFault() {
        Due.sentence("Promise 11", "-100 less the place of its FAULT.");
        ArmpitLine x = new ArmpitLine();
        Due.is("of nothing", x.text(), -100);
        Due.is("at 0", Due.read(x, "?"), -100);
        Due.is("at 1", Due.read(x, " ?"), -101);
        Due.is("at 5", Due.read(x, "count"), -105);
        Due.is("at 159", Due.read(x, " ".repeat(159) + "?"), -259);
        Due.is("at 160", Due.read(x, " ".repeat(160)), -260);
        Due.is("none", Due.read(x, "count 1" + BEHIND), 1);
    }

    private static void textFull() {
        Due.sentence("Promise 11", "FULL (ahead of all): no TEXT more has room (THE TAPE stays).");
        ArmpitLine x = new ArmpitLine();
        for (int t = 1; t < 6; t++) {
            Due.is("text " + t, Due.read(x, "count 1" + BEHIND), t);
        }
        Due.is("of nothing", x.text(), FULL);
        Due.feed(x, "count 1" + BEHIND);
        Due.is("the seventh", x.text(), FULL);
        Due.is("the tape stays", x.count(7), 22);
        Due.feed(x, "?");
        Due.is("ahead of a fault", x.text(), FULL);
        Due.is("the tape stays by a fault, too", x.count(7), 23);
        Due.sentence("Terms 1", "There are 6 TEXTS at most, TEXT 0 with them.");
        Due.is("six texts", x.count(6), 6);
        Due.is("text 5", x.force(5), 0);
        Due.is("text 6", x.force(6), BAD);
        Due.is("text 0", x.force(0), 5);
    }

    /** What an E comes to that asks for no name. */
    private static void worth(String e, long due) {
        ArmpitLine x = new ArmpitLine();
        x.man(0, 0, 0);
        Due.is("text with " + e, Due.read(x, "count " + e + BEHIND), 1);
        x.force(1);
        Due.is("worth of " + e, x.says(0, 0, 0, 0), due);
    }
}
