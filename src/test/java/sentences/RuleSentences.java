/** The sentences on what texts come to, on the rule and on WIDTH: Terms 1, promises 12 to 14. */
final class RuleSentences {
    private static final int LEAST = Integer.MIN_VALUE, MOST = Integer.MAX_VALUE;
    private static final int BAD = ArmpitLine.BAD;
    private static final long NO = ArmpitLine.NO;
    private static final String LEAST_INT = "(8192*8192*32)";

    private RuleSentences() {
    }

    static void all() {
        wrapping();
        truth();
        namesOfParts();
        namesOfMen();
        nameOfWidth();
        counts();
        near();
        play();
        firstRule();
        force();
        says();
        width();
    }

    /** What an E comes to for part 2 of a man of side 3 in tick 9. */
    private static void worth(String e, long due) {
        ArmpitLine x = new ArmpitLine();
        x.man(3, 500, -7);
        x.part(0, 2, -33);
        Due.is("text with " + e, Due.read(x, "count " + e + ";near 0;play 1;"), 1);
        x.force(1);
        Due.is("worth of " + e, x.says(0, 2, 9, 0), due);
    }

    private static void wrapping() {
        Due.sentence("Terms 1", "An E is an int (32 bits, wrapping)");
        worth(LEAST_INT, LEAST);
        worth(LEAST_INT + "-1", MOST);
        worth(LEAST_INT + "-1+1", LEAST);
        worth("-" + LEAST_INT, LEAST);
        worth("-" + LEAST_INT + "-1", MOST);
        worth(LEAST_INT + "+1", LEAST + 1);
        worth("-(" + LEAST_INT + "+1)", MOST);
        worth("8192*8192*31", 8192L * 8192 * 31);
        worth("8192*8192*64", 0);
        worth("8192*8192*64+5", 5);
        worth("9999*9999*9999", (int) (9999L * 9999 * 9999));
        worth(LEAST_INT + "<0", 1);
        worth(LEAST_INT + "-1<0", 0);
        worth(LEAST_INT + "<1", 1);
        worth(LEAST_INT + "-1<" + LEAST_INT, 0);
    }

    private static void truth() {
        Due.sentence("Terms 1", "of or, and, not, <, = 1 or 0 (what is not 0 is true).");
        worth("0 or 0", 0);
        worth("0 or 7", 1);
        worth("7 or 0", 1);
        worth("-1 or 0", 1);
        worth("8 or 7", 1);
        worth("7 and 8", 1);
        worth("1 and 2", 1);
        worth("-1 and -1", 1);
        worth("7 and 0", 0);
        worth("0 and 7", 0);
        worth("not 0", 1);
        worth("not 1", 0);
        worth("not -1", 0);
        worth("not 2", 0);
        worth("6 < 7", 1);
        worth("7 < 7", 0);
        worth("8 < 7", 0);
        worth("6 = 7", 0);
        worth("7 = 7", 1);
        worth("8 = 7", 0);
        worth("-1 < 0", 1);
        worth("7", 7);
    }

    private static void namesOfParts() {
        Due.sentence("Terms 1", "Of a MAN's PART and a TICK: part");
        ArmpitLine x = new ArmpitLine();
        x.man(0, 0, 0);
        Due.rule(x, "count part; near off; play 1;");
        for (int p = 0; p < 4; p++) {
            Due.is("part " + p, x.says(0, p, 0, 0), p);
        }
        Due.is("part 4", x.says(0, 4, 0, 0), NO);
        Due.sentence("Terms 1", "off: how far it is ahead");
        x.part(0, 0, -199);
        x.part(0, 3, 199);
        Due.is("off of part 0", x.says(0, 0, 0, 1), -199);
        Due.is("off of part 1", x.says(0, 1, 0, 1), 0);
        Due.is("off of part 3", x.says(0, 3, 0, 1), 199);
    }

    private static void namesOfMen() {
        Due.sentence("Terms 1", "speed; team: his SIDE; tick");
        ArmpitLine x = new ArmpitLine();
        x.man(0, 5, -99);
        x.man(3, 5, 99);
        Due.rule(x, "count speed; near team; play tick;");
        Due.is("speed of man 0", x.says(0, 0, 4, 0), -99);
        Due.is("speed of man 1", x.says(1, 0, 4, 0), 99);
        Due.is("side of man 0", x.says(0, 0, 4, 1), 0);
        Due.is("side of man 1", x.says(1, 0, 4, 1), 3);
        Due.is("tick 0", x.says(0, 0, 0, 2), 0);
        Due.is("tick 200", x.says(1, 0, 200, 2), 200);
    }

    private static void nameOfWidth() {
        Due.sentence("Terms 1", "width: WIDTH (0 .. 999; 0 at first).");
        ArmpitLine x = new ArmpitLine();
        x.man(0, 0, 0);
        Due.rule(x, "count width; near 0; play 1;");
        Due.is("at first", x.says(0, 0, 0, 0), 0);
        Due.is("width -1", x.width(-1), BAD);
        Due.is("it stays", x.says(0, 0, 0, 0), 0);
        x.width(999);
        Due.is("width 999", x.says(0, 0, 0, 0), 999);
        Due.is("width 1000", x.width(1000), BAD);
        Due.is("999 stays", x.says(0, 0, 0, 0), 999);
        x.width(0);
        Due.is("width 0", x.says(0, 0, 0, 0), 0);
    }

    private static void counts() {
        Due.sentence("Terms 1", "count: whether the PART counts");
        ArmpitLine x = new ArmpitLine();
        x.man(0, 100, 0);
        for (int p = 0; p < 4; p++) {
            x.part(0, p, 10 + p);
        }
        Due.rule(x, "count part - 1; near 0; play 1;");
        Due.is("3 comes to 2: it counts", x.front(0, 0, 1), 3);
        Due.rule(x, "count (part - 2) * (part < 3); near 0; play 1;");
        Due.is("2 comes to 0, 1 to -1: it counts", x.front(0, 0, 1), 1);
        Due.rule(x, "count (part - 1) * (part < 2); near 0; play 1;");
        Due.is("1 comes to 0, 0 to -1: it counts", x.front(0, 0, 0), 110);
        Due.rule(x, "count 0; near 0; play 1;");
        Due.is("none counts", x.front(0, 0, 0), 100);
    }

    /** A near call of a man in front by 500 and one behind, whose first man's knee is foremost. */
    private static ArmpitLine nearCall(String near, String play) {
        ArmpitLine x = new ArmpitLine();
        x.man(0, 3000, 0);
        x.man(1, 500, 0);
        x.part(0, 2, 9);
        x.camera(20, 0, 0);
        x.crosser(0, 0);
        x.call(3, 0, 1, 6, 0);
        Due.rule(x, "count not part = 0; near " + near + "; play " + play + ";");
        return x;
    }

    private static void near() {
        Due.sentence("Terms 1", "near: how near is near (0 .. 999, else the bound; of the PART that is foremost)");
        Due.is("-1", nearCall("-1", "1").told(0, 2), 1);
        Due.is("0", nearCall("0", "1").told(0, 2), 1);
        Due.is("1", nearCall("1", "1").told(0, 2), 2);
        Due.is("998", nearCall("998", "1").told(0, 2), 999);
        Due.is("999", nearCall("999", "1").told(0, 2), 1000);
        Due.is("1000", nearCall("1000", "1").told(0, 2), 1000);
        Due.is("the least int", nearCall(LEAST_INT, "1").told(0, 2), 1);
        Due.is("the greatest int", nearCall(LEAST_INT + "-1", "1").told(0, 2), 1000);
        Due.is("the knee is foremost", nearCall("part * 10 + off", "1").told(0, 2), 30);
        ArmpitLine x = nearCall("part * 10 + off", "1");
        x.part(0, 3, 10);
        Due.is("the foot is foremost", x.told(0, 2), 41);
    }

    private static void play() {
        Due.sentence("Terms 1", "play: whether he is in play (of the PART that is foremost).");
        Due.is("0", nearCall("0", "0").told(0, 4), 0);
        Due.is("1", nearCall("0", "1").told(0, 4), 1);
        Due.is("-1", nearCall("0", "-1").told(0, 4), 1);
        Due.is("2", nearCall("0", "2").told(0, 4), 1);
        Due.is("of the knee", nearCall("0", "part = 2").told(0, 4), 1);
        Due.is("of another part", nearCall("0", "not part = 2").told(0, 4), 0);
        ArmpitLine x = nearCall("0", "part = 2");
        x.part(0, 1, 9);
        Due.is("the shoulder is foremost then", x.told(0, 4), 0);
    }

    private static void firstRule() {
        Due.sentence("Terms 1", "TEXT 0, at first THE RULE, is: count not part = 0 ; near width ; play 1 ;");
        ArmpitLine x = new ArmpitLine();
        x.man(0, 100, 0);
        Due.is("text 0 rules", x.count(8), 0);
        Due.is("the head", x.says(0, 0, 0, 0), 0);
        for (int p = 1; p < 4; p++) {
            Due.is("another part: " + p, x.says(0, p, 0, 0), 1);
        }
        for (int w : new int[] {1, 999, 0}) {
            x.width(w);
            Due.is("near is " + w, x.says(0, 0, 0, 1), w);
        }
        Due.is("play", x.says(0, 0, 0, 2), 1);
    }

    private static void force() {
        Due.sentence("Promise 12", "A TEXT is THE RULE: which was.");
        ArmpitLine x = new ArmpitLine();
        x.man(0, 0, 0);
        Due.read(x, "count 5; near 6; play 7;");
        Due.is("0 was", x.force(1), 0);
        Due.is("it rules", x.says(0, 0, 0, 0), 5);
        Due.is("1 was", x.force(1), 1);
        Due.is("1 was again", x.force(0), 1);
        Due.is("the first one rules", x.says(0, 0, 0, 0), 0);
        Due.sentence("Promise 12", "BAD.");
        Due.is("text -1", x.force(-1), BAD);
        Due.is("text 2 of two", x.force(2), BAD);
        Due.is("text 6", x.force(6), BAD);
        Due.is("the least int", x.force(LEAST), BAD);
        Due.is("the greatest int", x.force(MOST), BAD);
        Due.is("the rule stays", x.count(8), 0);
        Due.is("text 1", x.force(1), 0);
        Due.is("text 0", x.force(0), 1);
    }

    private static void says() {
        Due.sentence("Promise 13", "What count (part 0), near (1), play (2) of THE RULE come to for a MAN's PART in a TICK.");
        ArmpitLine x = new ArmpitLine();
        x.man(0, 0, 0);
        x.man(2, 0, 8);
        x.part(1, 3, -5);
        Due.rule(x, "count off * 2; near speed - 9999; play part * 1000 + team * 100 + tick;");
        Due.is("count", x.says(1, 3, 7, 0), -10);
        Due.is("near, as it comes", x.says(1, 3, 7, 1), -9991);
        Due.is("play, as it comes", x.says(1, 3, 7, 2), 3207);
        Due.is("of part 1 of man 0 in tick 8", x.says(0, 1, 8, 2), 1008);
        Due.sentence("Promise 13", "NO: none such.");
        Due.is("man -1", x.says(-1, 0, 0, 0), NO);
        Due.is("man 2 of two", x.says(2, 0, 0, 0), NO);
        Due.is("part -1", x.says(0, -1, 0, 0), NO);
        Due.is("part 4", x.says(0, 4, 0, 0), NO);
        Due.is("tick -1", x.says(0, 0, -1, 0), NO);
        Due.is("tick 201", x.says(0, 0, 201, 0), NO);
        Due.is("key -1", x.says(0, 0, 0, -1), NO);
        Due.is("key 3", x.says(0, 0, 0, 3), NO);
        Due.is("the least of all", x.says(LEAST, LEAST, LEAST, LEAST), NO);
        Due.is("man 0, part 0, tick 0, key 0", x.says(0, 0, 0, 0), 0);
        Due.is("man 1, part 3, tick 200, key 2", x.says(1, 3, 200, 2), 3400);
    }

    private static void width() {
        Due.sentence("Promise 14", "WIDTH: what it was.");
        ArmpitLine x = new ArmpitLine();
        Due.is("0 was", x.width(5), 0);
        Due.is("5 was", x.width(5), 5);
        Due.is("5 was again", x.width(0), 5);
        Due.sentence("Promise 14", "BAD.");
        Due.is("-1", x.width(-1), BAD);
        Due.is("0", x.width(0), 0);
        Due.is("999", x.width(999), 0);
        Due.is("1000", x.width(1000), BAD);
        Due.is("the least int", x.width(LEAST), BAD);
        Due.is("the greatest int", x.width(MOST), BAD);
        Due.is("999 stays", x.count(9), 999);
    }
}
