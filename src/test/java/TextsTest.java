/**
 * How texts are read (promises 10, 11), where their faults are, and what they come to (13). The remark
 * at each test says which sentences it holds.
 */
public final class TextsTest {
    private static final int FINE = -1;

    public static void main(String[] args) {
        faultsOfWords();
        faultsOfNumbers();
        faultsOfOrder();
        faultsOfDepth();
        longest();
        manyTokens();
        worths();
        names();
        Due.end();
    }

    /** The fault of a text: its place, or FINE. */
    private static void fault(String text, int place) {
        ArmpitLine x = new ArmpitLine();
        int due = place == FINE ? 1 : -100 - place;
        Due.is("text of \"" + text.replace('\n', '~') + "\"", Due.read(x, text), due);
        Due.is("the tape behind it", x.count(7), 0);
        Due.is("texts behind it", x.count(6), place == FINE ? 2 : 1);
    }

    /** A fault in the first E, at a place in it. */
    private static void faultIn(String e, int place) {
        fault("count " + e + ";near 0;play 1;", place == FINE ? FINE : 6 + place);
    }

    /** Terms 1 "WORDS (a .. z)", "a WORD that is neither KEY nor NAME", "also of a byte that begins none". */
    private static void faultsOfWords() {
        faultIn("part", FINE);
        faultIn("parts", 0);
        faultIn("par", 0);
        faultIn("speedy", 0);
        faultIn("speedspeed", 0);
        faultIn("p", 0);
        faultIn("count", 0);
        faultIn("near", 0);
        faultIn("play", 0);
        faultIn("or", 0);
        faultIn("part and", 8);
        faultIn("Part", 0);
        faultIn("part # 1", 5);
        faultIn("part \t", 5);
        faultIn("part\n<\n1", FINE);
        faultIn("partor 1", 0);
        faultIn("1or 1and 1", FINE);
        faultIn("1or1and1", FINE);
        faultIn("not1", FINE);
        faultIn("off2", 3);
        faultIn("part{", 4);
        faultIn("part`", 4);
        faultIn("{", 0);
        faultIn("`", 0);
        faultIn("\u00ff", 0);
        faultIn("\u0000", 0);
        faultIn("1 / 2", 2);
        faultIn("1 > 2", 2);
        faultIn("1 : 2", 2);
    }

    /** Terms 1 "NUMBERS (as many digits as stand there, 4 at most)", "a NUMBER that is too long". */
    private static void faultsOfNumbers() {
        faultIn("9999", FINE);
        faultIn("0000", FINE);
        faultIn("10000", 0);
        faultIn("00000", 0);
        faultIn("1 + 12345678901234567890", 4);
        faultIn("1:", 1);
        faultIn("1/", 1);
        faultIn("1 2", 2);
        faultIn("1234 5", 5);
    }

    /** Terms 1 "TEXT: count E ; near E ; play E ;" and what E stands for, "(the text's size, if it ends too early)". */
    private static void faultsOfOrder() {
        fault("", 0);
        fault("   ", 3);
        fault("count", 5);
        fault("count ", 6);
        fault("count 1", 7);
        fault("count 1;", 8);
        fault("count 1 ; near", 14);
        fault("near 1; count 1; play 1;", 0);
        fault("count 1; play 1; near 1;", 9);
        fault("count 1; near 1; play 1", 23);
        fault("count 1; near 1; play 1   ", 26);
        fault("count 1; near 1; play 1;", FINE);
        fault(" \n count 1; near 1; play 1; \n ", FINE);
        fault("count1;near1;play1;", FINE);
        fault("count 1; near 1; play 1;;", 24);
        fault("count 1; near 1; play 1; count", 25);
        fault("count 1; near 1; play 1; ?", 25);
        fault("count ; near 1; play 1;", 6);
        fault("count 1; near ; play 1;", 14);
        fault(";", 0);
        faultIn("1 < 2", FINE);
        faultIn("1 < 2 < 3", 6);
        faultIn("1 = 2 = 3", 6);
        faultIn("1 < 2 = 3", 6);
        faultIn("(1 < 2) < 3", FINE);
        faultIn("1 < not 2", 4);
        faultIn("1 + not 2", 4);
        faultIn("1 + (not 2)", FINE);
        faultIn("not 1 < 2", FINE);
        faultIn("- not 1", 2);
        faultIn("1 or or 1", 5);
        faultIn("1 or not 1 and not not 1", FINE);
        faultIn("+ 1", 0);
        faultIn("* 1", 0);
        faultIn("1 + * 1", 4);
        faultIn("1 - - 1", FINE);
        faultIn("1 * - 1", FINE);
        faultIn("1 < - 1", FINE);
        faultIn("()", 1);
        faultIn("(1", 2);
        faultIn("1)", 1);
        faultIn("((1)", 4);
        faultIn("(1))", 3);
        faultIn("1 (", 2);
        faultIn("part part", 5);
        faultIn("part not 1", 5);
        faultIn("1 < ", 4);
        faultIn("= 1", 0);
    }

    /** Terms 1 "a ( , a not, a - ahead of a ONE while 5 of these are open", "(a ( till its ) , not and - till what they belong to ends)". */
    private static void faultsOfDepth() {
        faultIn("(((((1)))))", FINE);
        faultIn("((((((1))))))", 5);
        faultIn("not not not not not 1", FINE);
        faultIn("not not not not not not 1", 20);
        faultIn("-----1", FINE);
        faultIn("------1", 5);
        faultIn("not -(-(1))", FINE);
        faultIn("not -(-(-1))", 8);
        faultIn("not -(-(1 * 2 + part))", FINE);
        faultIn("not -(-((1)))", 8);
        faultIn("(((((-1)))))", 5);
        faultIn("(((((not 1)))))", 5);
        faultIn("(((((1))))) + (((((1)))))", FINE);
        faultIn("(((((1))))) + ((((((1))))))", 19);
        faultIn("-(-(-1)) - -(-(-1))", FINE);
        faultIn("-1*-1*-1*-1*-1*-1*-1", FINE);
        faultIn("not 1 and not 1 and not 1 and not 1 and not 1 and not 1", FINE);
        faultIn("not 1 or not 1 or not 1 or not 1 or not 1 or not 1", FINE);
        faultIn("not ((((1 < -1))))", 12);
        faultIn("not not not not -1 < -1", FINE);
        faultIn("not not not not not 1 < -1", 24);
        faultIn("not not not not not 1 - 1", FINE);
        faultIn("not not not not not 1 and -1", FINE);
        faultIn("((((-1 + (1)))))", FINE);
        faultIn("((((-(1)))))", 5);
    }

    /** Terms 1 "THE TAPE (160 bytes at most)"; promise 11 "-100 less the place of its FAULT." */
    private static void longest() {
        ArmpitLine x = new ArmpitLine();
        StringBuilder full = new StringBuilder("count 1");
        while (full.length() < 160 - 14) {
            full.append("+1");
        }
        full.append(";near1;play1;");
        Due.is("its size", full.length(), 160);
        Due.is("a text of 160 bytes", Due.read(x, full.toString()), 1);
        x.force(1);
        x.man(0, 0, 0);
        Due.is("its sum", x.says(0, 0, 0, 0), (full.length() - 13 - 6 + 1) / 2);
        Due.is("a key where a sum goes on", Due.read(x, full.toString().replace(';', '+')), -100 - 148);
        full.setCharAt(159, '+');
        Due.is("160 bytes that end too early", Due.read(x, full.toString()), -100 - 160);
        full.setCharAt(159, '!');
        Due.is("a fault at the last byte", Due.read(x, full.toString()), -100 - 159);
    }

    /** As many tokens as there are bytes, and bytes that an earlier tape left behind. */
    private static void manyTokens() {
        fault(";".repeat(160), 0);
        fault("(".repeat(160), 0);
        fault("count(((((" + ")".repeat(150), 10);
        fault("count 1;near 1;play 1;" + "(".repeat(138), 22);
        ArmpitLine x = new ArmpitLine();
        Due.is("digits first", Due.read(x, "count 999999999"), -106);
        Due.is("digits that are no more there", Due.read(x, "count 1234"), -110);
        Due.is("letters first", Due.read(x, "count part = tickt"), -113);
        Due.is("letters that are no more there", Due.read(x, "count part = tick"), -117);
        Due.is("a fault leaves nothing behind", Due.read(x, "count 1 + 2; near 3 *"), -121);
        Due.is("a text behind it", Due.read(x, "count 5; near 6; play 7;"), 1);
        x.force(1);
        x.man(0, 0, 0);
        for (int key = 0; key < 3; key++) {
            Due.is("what it says", x.says(0, 0, 0, key), 5 + key);
        }
    }

    /** What an E comes to for the man, the part 2 and the tick 9. */
    private static void worth(String e, long due) {
        ArmpitLine x = new ArmpitLine();
        x.man(3, 500, -7);
        x.part(0, 2, -33);
        x.width(44);
        Due.is("text with " + e, Due.read(x, "count " + e + ";near 0;play 1;"), 1);
        x.force(1);
        Due.is("worth of " + e, x.says(0, 2, 9, 0), due);
        Due.is("near beside it", x.says(0, 2, 9, 1), 0);
        Due.is("play beside it", x.says(0, 2, 9, 2), 1);
    }

    /** Terms 1 "An E is an int (32 bits, wrapping): of or, and, not, <, = 1 or 0 (what is not 0 is true)." */
    private static void worths() {
        worth("7", 7);
        worth("0007", 7);
        worth("1 + 2 * 3", 7);
        worth("(1 + 2) * 3", 9);
        worth("10 - 3 - 2", 5);
        worth("10 - (3 - 2)", 9);
        worth("2 - 3 * 4 + 1", -9);
        worth("-2 * 3", -6);
        worth("- 2 - 3", -5);
        worth("-(2 + 3)", -5);
        worth("--5", 5);
        worth("5 or 0", 1);
        worth("0 or 0", 0);
        worth("0 or 7", 1);
        worth("5 and 7", 1);
        worth("5 and 0", 0);
        worth("0 and 5", 0);
        worth("1 or 1 and 0", 1);
        worth("(1 or 1) and 0", 0);
        worth("0 and 1 or 1", 1);
        worth("not 0", 1);
        worth("not 5", 0);
        worth("not not 5", 1);
        worth("not 1 < 0", 1);
        worth("(not 1) < 0", 0);
        worth("not 0 or 1", 1);
        worth("not (0 or 1)", 0);
        worth("not 0 and 0", 0);
        worth("1 < 2", 1);
        worth("2 < 1", 0);
        worth("1 < 1", 0);
        worth("1 = 1", 1);
        worth("1 + 1 = 2", 1);
        worth("1 - 2 < 0", 1);
        worth("2 * (1 < 2) + 1", 3);
        worth("-1 < 1", 1);
        worth("9999 * 9999", 99980001);
        worth("9999 * 9999 * 9999", (int) 999700029999L);
        worth("-9999 * 9999 * 9999 < 0", -((int) 999700029999L) < 0 ? 1 : 0);
        worth("8192 * 8192 * 32", (int) (8192L * 8192 * 32));
        worth("- (8192 * 8192 * 32)", (int) -(8192L * 8192 * 32));
        worth("8192 * 8192 * 32 < 0", 1);
    }

    /** Terms 1 "NAMES are part off speed team tick width", "Of a MAN's PART and a TICK". */
    private static void names() {
        worth("part", 2);
        worth("off", -33);
        worth("speed", -7);
        worth("team", 3);
        worth("tick", 9);
        worth("width", 44);
        worth("part + off * speed - team", 230);
        ArmpitLine x = new ArmpitLine();
        x.man(1, 0, 50);
        Due.read(x, "count part = tick; near tick + width; play speed = 50 and team = 1;");
        x.force(1);
        Due.is("it counts in its tick", x.says(0, 3, 3, 0), 1);
        Due.is("not in another one", x.says(0, 3, 2, 0), 0);
        Due.is("near in a tick", x.says(0, 0, 200, 1), 200);
        Due.is("play", x.says(0, 0, 0, 2), 1);
        x.part(0, 3, 90);
        x.part(0, 2, 80);
        Due.is("the front in tick 2", x.front(0, 2, 0), 180);
        Due.is("the front in tick 3", x.front(0, 3, 0), 240);
        Due.is("the front in tick 4", x.front(0, 4, 0), 200);
        Due.is("the foremost in tick 2", x.front(0, 2, 1), 2);
        Due.is("the foremost in tick 4", x.front(0, 4, 1), 3);
    }
}
