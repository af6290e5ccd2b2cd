/**
 * Promise by promise: ordinary inputs, the edges that the document names, and wrong inputs. The remark
 * at each test says which sentences it holds; SentencesTest has a test for each sentence alone.
 */
public final class PromisesTest {
    private static final int NONE = ArmpitLine.NONE, BAD = ArmpitLine.BAD;
    private static final int STATE = ArmpitLine.STATE, FULL = ArmpitLine.FULL;
    private static final long NO = ArmpitLine.NO;
    private static final int LEAST = Integer.MIN_VALUE, MOST = Integer.MAX_VALUE;

    public static void main(String[] args) {
        newObject();
        men();
        parts();
        moves();
        fronts();
        cameras();
        frames();
        seen();
        crossers();
        fed();
        textsAndForce();
        said();
        widths();
        calls();
        margins();
        bandsAndOffside();
        waysAndTurns();
        offsideBits();
        wrongs();
        bests();
        matches();
        tables();
        seasons();
        stands();
        casesAndSplit();
        images();
        counts();
        sheets();
        cells();
        copies();
        menBySheet();
        taken();
        Due.end();
    }

    /** Promise 1 "No MEN; WIDTH 0."; promise 28 of a new object. */
    private static void newObject() {
        ArmpitLine x = new ArmpitLine();
        long[] due = {0, 0, 0, 0, 0, 0, 1, 0, 0, 0};
        for (int what = 0; what < due.length; what++) {
            Due.is("1: count(" + what + ")", x.count(what), due[what]);
        }
        Due.is("1: offside()", x.offside(), 0);
        Due.is("1: split()", x.split(), 0);
        Due.is("1: back()", x.back(), STATE);
        Due.is("1: text() of nothing", x.text(), -100);
        Due.is("1: NO", NO, -4611686018427387904L);
    }

    /** Promise 2 "A MAN: his number. BAD; FULL."; Terms 1 "MEN (10 at most, numbered from 0)", SIDE, PLACE, SPEED. */
    private static void men() {
        ArmpitLine x = new ArmpitLine();
        Due.is("2: least", x.man(0, 0, -99), 0);
        Due.is("2: most", x.man(3, 9999, 99), 1);
        int[][] bad = {{-1, 0, 0}, {4, 0, 0}, {0, -1, 0}, {0, 10000, 0}, {0, 0, -100}, {0, 0, 100},
            {LEAST, 0, 0}, {0, MOST, 0}, {0, 0, LEAST}};
        for (int[] b : bad) {
            Due.is("2: bad", x.man(b[0], b[1], b[2]), BAD);
        }
        Due.is("2: bad ones change nothing", x.count(0), 2);
        for (int m = 2; m < 10; m++) {
            Due.is("2: man " + m, x.man(m % 4, m, m), m);
        }
        Due.is("2: the eleventh", x.man(0, 0, 0), FULL);
        Due.is("2: BAD ahead of FULL", x.man(4, 0, 0), BAD);
        Due.is("2: still ten", x.count(0), 10);
        Due.is("2: where the ninth is", x.front(9, 3, 2), 36);
    }

    /** Promise 3 "PART of a MAN: how far ahead it was. -1000: none such."; Terms 1 "(-199 .. 199; 0 at first)". */
    private static void parts() {
        ArmpitLine x = new ArmpitLine();
        Due.is("3: no man", x.part(0, 0, 0), -1000);
        x.man(0, 100, 0);
        x.man(1, 100, 0);
        Due.is("3: first off", x.part(0, 3, 199), 0);
        Due.is("3: what was", x.part(0, 3, -199), 199);
        Due.is("3: what was below", x.part(0, 3, 5), -199);
        Due.is("3: another part", x.part(0, 2, 1), 0);
        Due.is("3: another man's", x.part(1, 3, 1), 0);
        Due.is("3: part -1", x.part(0, -1, 0), -1000);
        Due.is("3: part 4", x.part(0, 4, 0), -1000);
        Due.is("3: off 200", x.part(0, 3, 200), -1000);
        Due.is("3: off -200", x.part(0, 3, -200), -1000);
        Due.is("3: man -1", x.part(-1, 3, 0), -1000);
        Due.is("3: man 2", x.part(2, 3, 0), -1000);
        Due.is("3: far off", x.part(MOST, MOST, MOST), -1000);
        Due.is("3: nothing changed", x.part(0, 3, 0), 5);
        for (int m = 2; m < 10; m++) {
            x.man(2, 0, 0);
        }
        for (int m = 0; m < 10; m++) {
            for (int p = 0; p < 4; p++) {
                x.part(m, p, 4 * m + p);
            }
        }
        for (int m = 0; m < 10; m++) {
            for (int p = 0; p < 4; p++) {
                Due.is("3: each part is its own", x.part(m, p, 0), 4 * m + p);
            }
        }
    }

    /** Promise 4 "PLACE (what 0), SPEED (1) of a MAN become v: what was. -1000: none such." */
    private static void moves() {
        ArmpitLine x = new ArmpitLine();
        Due.is("4: no man", x.move(0, 0, 0), -1000);
        x.man(2, 100, -7);
        Due.is("4: place", x.move(0, 0, 9999), 100);
        Due.is("4: place again", x.move(0, 0, 0), 9999);
        Due.is("4: speed", x.move(0, 1, 99), -7);
        Due.is("4: speed again", x.move(0, 1, -99), 99);
        int[][] bad = {{0, 0, -1}, {0, 0, 10000}, {0, 1, 100}, {0, 1, -100}, {0, 2, 5}, {0, -1, 5}, {1, 0, 5}, {-1, 0, 5}};
        for (int[] b : bad) {
            Due.is("4: none such", x.move(b[0], b[1], b[2]), -1000);
        }
        Due.is("4: place stayed", x.move(0, 0, 5), 0);
        Due.is("4: speed stayed", x.move(0, 1, 5), -99);
    }

    /** Promise 5; Terms 1 "FRONT of a MAN in a TICK", "of like ones the least PART is foremost", "without any where he is". */
    private static void fronts() {
        ArmpitLine x = new ArmpitLine();
        Due.is("5: no man", x.front(0, 0, 0), NO);
        x.man(0, 1000, 5);
        Due.is("5: of like ones the least part", x.front(0, 10, 1), 1);
        Due.is("5: front", x.front(0, 10, 0), 1050);
        x.part(0, 0, 150);
        Due.is("5: the head does not count", x.front(0, 10, 0), 1050);
        x.part(0, 3, 40);
        x.part(0, 2, 40);
        Due.is("5: knee and foot alike", x.front(0, 10, 1), 2);
        Due.is("5: front by the knee", x.front(0, 10, 0), 1090);
        Due.is("5: where he is", x.front(0, 10, 2), 1050);
        x.part(0, 1, -10);
        x.part(0, 2, -9);
        x.part(0, 3, -30);
        Due.is("5: all behind", x.front(0, 0, 0), 991);
        Due.is("5: foremost behind", x.front(0, 0, 1), 2);
        Due.is("5: tick 200", x.front(0, 200, 2), 2000);
        Due.is("5: tick 201", x.front(0, 201, 2), NO);
        Due.is("5: tick -1", x.front(0, -1, 2), NO);
        Due.is("5: what 3", x.front(0, 0, 3), NO);
        Due.is("5: what -1", x.front(0, 0, -1), NO);
        Due.is("5: man 1", x.front(1, 0, 0), NO);
        Due.is("5: man -1", x.front(-1, 0, 0), NO);
        Due.is("5: a text without counting parts", Due.read(x, "count 0; near 0; play 1;"), 1);
        x.force(1);
        x.part(0, 3, 77);
        Due.is("5: none counts, where he is", x.front(0, 4, 0), 1020);
        Due.is("5: none counts, the foot", x.front(0, 4, 1), 3);
    }

    /** Promise 6 "A CAMERA: its number. BAD; FULL."; Terms 1 "CAMERAS (4 at most, numbered from 0)". */
    private static void cameras() {
        ArmpitLine x = new ArmpitLine();
        int[][] bad = {{0, 0, 0}, {21, 0, 0}, {1, -1, 0}, {1, 20, 0}, {1, 0, -10}, {1, 0, 10}, {LEAST, 0, 0}, {1, 0, MOST}};
        for (int[] b : bad) {
            Due.is("6: bad", x.camera(b[0], b[1], b[2]), BAD);
        }
        Due.is("6: least", x.camera(1, 0, -9), 0);
        Due.is("6: most", x.camera(20, 19, 9), 1);
        Due.is("6: third", x.camera(3, 3, 3), 2);
        Due.is("6: fourth", x.camera(3, 3, 3), 3);
        Due.is("6: fifth", x.camera(3, 3, 3), FULL);
        Due.is("6: BAD ahead of FULL", x.camera(0, 3, 3), BAD);
        Due.is("6: count", x.count(1), 4);
    }

    /** Promise 7 "FRAME. BAD."; Terms 1 "the latest of its TICKS that is not behind it; its first one, if there is none." */
    private static void frames() {
        ArmpitLine x = new ArmpitLine();
        Due.is("7: no camera", x.frame(0, 0), BAD);
        x.camera(7, 3, 0);
        x.camera(1, 0, 0);
        int[][] due = {{0, 3}, {2, 3}, {3, 3}, {9, 3}, {10, 10}, {16, 10}, {17, 17}, {200, 199}};
        for (int[] d : due) {
            Due.is("7: frame(0, " + d[0] + ")", x.frame(0, d[0]), d[1]);
        }
        Due.is("7: each tick", x.frame(1, 137), 137);
        x.camera(2, 9, 0);
        Due.is("7: some frames ahead of the first", x.frame(2, 0), 9);
        Due.is("7: one tick ahead of it", x.frame(2, 8), 9);
        Due.is("7: behind it", x.frame(2, 12), 11);
        Due.is("7: tick -1", x.frame(0, -1), BAD);
        Due.is("7: tick 201", x.frame(0, 201), BAD);
        Due.is("7: camera 3", x.frame(3, 0), BAD);
        Due.is("7: camera -1", x.frame(-1, 0), BAD);
    }

    /** Promise 8 "(-99999 .. 99999). NO: none such."; Terms 1 "p and SLANT times p by 1000 (cut)". */
    private static void seen() {
        ArmpitLine x = new ArmpitLine();
        Due.is("8: no camera", x.sees(0, 0), NO);
        x.camera(1, 0, 7);
        x.camera(1, 0, -9);
        Due.is("8: 1000 by 7", x.sees(0, 1000), 1007);
        Due.is("8: 142 by 7", x.sees(0, 142), 142);
        Due.is("8: 143 by 7", x.sees(0, 143), 144);
        Due.is("8: -143 by 7", x.sees(0, -143), -144);
        Due.is("8: -142 is cut toward 0", x.sees(0, -142), -142);
        Due.is("8: the most", x.sees(1, 99999), 99100);
        Due.is("8: the least", x.sees(1, -99999), -99100);
        Due.is("8: too much", x.sees(1, 100000), NO);
        Due.is("8: too little", x.sees(1, -100000), NO);
        Due.is("8: camera 2", x.sees(2, 0), NO);
        Due.is("8: camera -1", x.sees(-1, 0), NO);
        Due.is("8: the least int", x.sees(0, LEAST), NO);
    }

    /** Promise 9 "A CROSSER: its number. BAD; FULL."; Terms 1 "CROSSERS (6 at most, numbered from 0)". */
    private static void crossers() {
        ArmpitLine x = new ArmpitLine();
        int[][] bad = {{-21, 0}, {21, 0}, {0, -1}, {0, 10}, {MOST, 0}, {0, LEAST}};
        for (int[] b : bad) {
            Due.is("9: bad", x.crosser(b[0], b[1]), BAD);
        }
        Due.is("9: least", x.crosser(-20, 0), 0);
        Due.is("9: most", x.crosser(20, 9), 1);
        for (int c = 2; c < 6; c++) {
            Due.is("9: crosser " + c, x.crosser(c, c), c);
        }
        Due.is("9: the seventh", x.crosser(0, 0), FULL);
        Due.is("9: BAD ahead of FULL", x.crosser(21, 0), BAD);
        Due.is("9: count", x.count(2), 6);
    }

    /** Promise 10 "BAD: n is not 1 .. 8. FULL."; Terms 1 "THE TAPE (160 bytes at most)". */
    private static void fed() {
        ArmpitLine x = new ArmpitLine();
        Due.is("10: n 0", x.feed(0, 5), BAD);
        Due.is("10: n 9", x.feed(9, 5), BAD);
        Due.is("10: n -1", x.feed(-1, 5), BAD);
        Due.is("10: n least", x.feed(LEAST, 5), BAD);
        Due.is("10: three", x.feed(3, -1), 3);
        for (int k = 1; k < 20; k++) {
            x.feed(8, 0x2020202020202020L);
        }
        Due.is("10: 155 bytes", x.count(7), 155);
        Due.is("10: 163 are too many", x.feed(8, 0), FULL);
        Due.is("10: BAD ahead of FULL", x.feed(9, 0), BAD);
        Due.is("10: none came", x.count(7), 155);
        Due.is("10: 160", x.feed(5, 0), 160);
        Due.is("10: 161", x.feed(1, 0), FULL);
        Due.is("10: byte 255 at 0 begins no token", x.text(), -100);
        Due.is("10: empty then", x.count(7), 0);
        // "   z": the lowest byte comes first; what is above the n bytes does not
        x.feed(3, 0x7a202020L);
        Due.is("10: blanks alone", x.text(), -103);
        x.feed(4, 0x7a202020L);
        Due.is("10: z is the fourth", x.text(), -103);
        x.feed(4, 0x2020207aL);
        Due.is("10: z is the first", x.text(), -100);
    }

    /** Promises 11 "FULL (ahead of all)" and 12 "which was. BAD."; Terms 1 "There are 6 TEXTS at most, TEXT 0 with them." */
    private static void textsAndForce() {
        ArmpitLine x = new ArmpitLine();
        Due.is("12: no text 1", x.force(1), BAD);
        Due.is("12: no text -1", x.force(-1), BAD);
        Due.is("12: the first rule again", x.force(0), 0);
        for (int t = 1; t < 6; t++) {
            Due.is("11: a fault takes no room", Due.read(x, "count 1; near 1"), -115);
            Due.is("11: text " + t, Due.read(x, "count 1; near " + t + "; play 1;"), t);
            Due.is("11: the tape is empty", x.count(7), 0);
        }
        Due.is("11: count", x.count(6), 6);
        Due.feed(x, "nonsense");
        Due.is("11: the seventh, ahead of all", x.text(), FULL);
        Due.is("11: the tape stays", x.count(7), 8);
        Due.is("12: text 5", x.force(5), 0);
        Due.is("12: text 3", x.force(3), 5);
        Due.is("12: text 6", x.force(6), BAD);
        Due.is("12: the rule stays", x.count(8), 3);
        x.man(0, 0, 0);
        Due.is("12: it rules", x.says(0, 0, 0, 1), 3);
    }

    /** Promise 13 "NO: none such."; Terms 1 "TEXT 0, at first THE RULE, is". */
    private static void said() {
        ArmpitLine x = new ArmpitLine();
        Due.is("13: no man", x.says(0, 0, 0, 0), NO);
        x.man(3, 50, -8);
        x.part(0, 2, -33);
        x.width(12);
        Due.is("13: the head does not count", x.says(0, 0, 0, 0), 0);
        Due.is("13: the foot counts", x.says(0, 3, 0, 0), 1);
        Due.is("13: near is width", x.says(0, 0, 0, 1), 12);
        Due.is("13: play", x.says(0, 0, 0, 2), 1);
        Due.is("13: a text", Due.read(x, "count off * 2; near speed - 9999; play part * 1000 + team * 100 + tick;"), 1);
        x.force(1);
        Due.is("13: count comes to a number", x.says(0, 2, 7, 0), -66);
        Due.is("13: near is not bound here", x.says(0, 2, 7, 1), -10007);
        Due.is("13: play comes to a number", x.says(0, 2, 77, 2), 2377);
        int[][] bad = {{1, 0, 0, 0}, {-1, 0, 0, 0}, {0, -1, 0, 0}, {0, 4, 0, 0}, {0, 0, -1, 0}, {0, 0, 201, 0}, {0, 0, 0, -1}, {0, 0, 0, 3}};
        for (int[] b : bad) {
            Due.is("13: none such", x.says(b[0], b[1], b[2], b[3]), NO);
        }
    }

    /** Promise 14 "WIDTH: what it was. BAD."; Terms 1 "WIDTH (0 .. 999; 0 at first)". */
    private static void widths() {
        ArmpitLine x = new ArmpitLine();
        Due.is("14: at first", x.width(999), 0);
        Due.is("14: what it was", x.width(0), 999);
        Due.is("14: 1000", x.width(1000), BAD);
        Due.is("14: -1", x.width(-1), BAD);
        Due.is("14: stays", x.width(5), 0);
        Due.is("14: is kept", x.count(9), 5);
    }

    /** Two men of sides 0 and 1, 10 hairs apart, a straight camera, a crosser without lean or spread. */
    private static ArmpitLine pair() {
        ArmpitLine x = new ArmpitLine();
        x.man(0, 100, 0);
        x.man(1, 90, 0);
        x.camera(1, 0, 0);
        x.crosser(0, 0);
        return x;
    }

    /** Promise 15 "its number. BAD; FULL."; Terms 2 "CALLS (24 at most, numbered from 0)", "one who defends (another one)". */
    private static void calls() {
        ArmpitLine x = new ArmpitLine();
        x.man(0, 100, 0);
        x.man(0, 90, 0);
        Due.is("15: no camera, even for kind 0", x.call(0, 0, 1, 0, 0), BAD);
        x.camera(1, 0, 0);
        Due.is("15: no crosser, even for kind 0", x.call(0, 0, 1, 0, 0), BAD);
        x.crosser(0, 0);
        x.crosser(0, 0);
        int[][] bad = {{-1, 0, 1, 0, 0}, {6, 0, 1, 0, 0}, {0, -1, 1, 0, 0}, {0, 2, 1, 0, 0}, {0, 0, -1, 0, 0},
            {0, 0, 2, 0, 0}, {0, 0, 0, 0, 0}, {0, 0, 1, -1, 0}, {0, 0, 1, 201, 0}, {0, 0, 1, 0, -1}, {0, 0, 1, 0, 2},
            {0, 0, 1, 0, 9}, {0, 0, 1, 0, 10}, {0, 0, 1, 0, -10}, {0, 0, 1, 0, MOST}, {0, 0, 1, 0, LEAST}, {LEAST, 0, 1, 0, 0}};
        for (int[] b : bad) {
            Due.is("15: bad", x.call(b[0], b[1], b[2], b[3], b[4]), BAD);
        }
        Due.is("15: none came", x.count(3), 0);
        for (int c = 0; c < 24; c++) {
            Due.is("15: call " + c, x.call(c % 6, c % 2, 1 - c % 2, c == 23 ? 200 : c, c % 2), c);
        }
        Due.is("15: the 25th", x.call(0, 0, 1, 0, 0), FULL);
        Due.is("15: BAD ahead of FULL", x.call(6, 0, 1, 0, 0), BAD);
        Due.is("15: count", x.count(3), 24);
        Due.is("15: the kind", x.told(23, 0), 5);
        Due.is("15: the tick", x.taken(23, 0), 200);
    }

    /** Promise 16 "NO: none such."; Terms 2 "MARGIN" of each KIND, "if the MAN's SPEED is above 0, else less it", "FRAME ERROR". */
    private static void margins() {
        ArmpitLine x = new ArmpitLine();
        x.man(0, 1000, 6);
        x.man(1, 2000, -4);
        x.part(0, 1, 11);
        x.part(1, 3, 22);
        x.camera(10, 5, -8);
        x.crosser(20, 1);
        for (int kind = 0; kind < 6; kind++) {
            x.call(kind, 0, 1, 12, 0);
        }
        // tick 12: 1083 and 1974; frame 5: 1041 and 2002, seen as 1033 and 1986
        long[] due = {-891, -871, -913, -913, -881, -955};
        for (int kind = 0; kind < 6; kind++) {
            Due.is("16: kind " + kind, x.told(kind, 0), kind);
            Due.is("16: margin of kind " + kind, x.told(kind, 1), due[kind]);
            Due.is("16: frame error of kind " + kind, x.told(kind, 8), -70);
        }
        x.move(0, 1, 0);
        Due.is("16: a man who stands has the lean less", x.told(2, 1), 1003 - 20 - (1986 - 20));
        x.move(0, 1, 1);
        Due.is("16: a man who just moves has the lean", x.told(2, 1), 1008 + 20 - (1986 - 20));
        Due.is("16: call 6", x.told(6, 0), NO);
        Due.is("16: call -1", x.told(-1, 0), NO);
        Due.is("16: what 10", x.told(0, 10), NO);
        Due.is("16: what -1", x.told(0, -1), NO);
        Due.is("16: far off", x.told(MOST, LEAST), NO);
    }

    /** Promise 16; Terms 2 "AHEAD: MARGIN above BAND", "BAND", "OFFSIDE", "WRONG"; Terms 1 "near (0 .. 999, else the bound)". */
    private static void bandsAndOffside() {
        ArmpitLine x = pair();
        x.man(0, 91, 0);
        for (int kind = 0; kind < 6; kind++) {
            x.call(kind, 0, 1, 0, 0);
        }
        x.width(8);
        long[] band = {0, 0, 1, 9, 3, 1};
        long[] ahead = {1, 1, 1, 1, 0, 1};
        for (int kind = 0; kind < 6; kind++) {
            Due.is("16: band of kind " + kind, x.told(kind, 2), band[kind]);
            Due.is("16: ahead, kind " + kind, x.told(kind, 3), ahead[kind]);
            Due.is("16: offside, kind " + kind, x.told(kind, 4), ahead[kind]);
            Due.is("16: wrong, kind " + kind, x.told(kind, 5), 1 - ahead[kind]);
        }
        x.width(9);
        Due.is("16: a margin that is the band is not above it", x.told(3, 3), 0);
        Due.is("16: then it is wrong", x.told(3, 5), 1);
        Due.is("16: near is bound above", Due.read(x, "count 1; near 5000; play tick;"), 1);
        Due.is("16: near is bound below", Due.read(x, "count 1; near -7; play part = 2 or tick = 50;"), 2);
        x.force(1);
        Due.is("16: band with 999", x.told(3, 2), 1000);
        Due.is("16: ahead still", x.told(0, 3), 1);
        Due.is("16: not in play in tick 0", x.told(0, 4), 0);
        Due.is("16: not wrong, as nobody is", x.told(3, 5), 0);
        x.force(2);
        Due.is("16: band with 0", x.told(3, 2), 1);
        Due.is("16: the head is foremost", x.told(0, 4), 0);
        x.part(0, 2, 1);
        Due.is("16: the knee is foremost", x.told(0, 4), 1);
        Due.is("16: near of the foremost part", Due.read(x, "count part < 2; near part * 7 + 3; play part;"), 3);
        x.force(3);
        x.part(0, 0, 5);
        x.part(0, 1, 6);
        Due.is("16: band by the shoulder", x.told(3, 2), 11);
        Due.is("16: ahead by it", x.told(3, 3), 1);
        x.part(0, 1, 5);
        Due.is("16: band by the head", x.told(3, 2), 4);
        Due.is("16: not in play by the head", x.told(3, 4), 0);
        // near and play are asked in the tick, not in the frame
        x.camera(20, 19, 0);
        x.call(3, 0, 1, 2, 10);
        Due.read(x, "count 1; near tick; play tick = 2;");
        x.force(4);
        Due.is("16: near in the tick", x.told(6, 2), 3);
        Due.is("16: play in the tick", x.told(6, 4), 1);
        // fronts of lined ones are those of the frame
        Due.read(x, "count tick = 19 and part = 3; near 0; play 1;");
        x.force(5);
        x.part(0, 3, 50);
        Due.is("16: front in the frame", x.told(6, 1), 60);
        Due.is("16: front in the tick", x.told(0, 1), 10);
        Due.is("16: frame error by parts that count", x.told(6, 8), 50);
    }

    /** Promise 16; Terms 2 "WAYS of a LINED CALL (or one under it)", "TURNS: the least number (0 .. 999)". */
    private static void waysAndTurns() {
        ArmpitLine x = pair();
        x.crosser(0, 2);
        x.crosser(7, 9);
        for (int kind = 0; kind < 6; kind++) {
            x.call(kind, 0, 1, 0, 1);
        }
        x.move(0, 0, 92);
        // margin 2, band 1: ahead if the first cross is not behind the other: 15 of 25
        long[] ways = {1, 1, 15, 15, 0, 0};
        long[] pairs = {1, 1, 25, 25, 1, 1};
        for (int kind = 0; kind < 6; kind++) {
            Due.is("16: ways of kind " + kind, x.told(kind, 6), ways[kind]);
            Due.is("16: pairs of kind " + kind, x.told(kind, 7), pairs[kind]);
        }
        x.width(3);
        Due.is("16: ways with a band of 4", x.told(3, 6), 3);
        x.call(2, 0, 1, 0, 2);
        Due.is("16: both leans alike", x.told(6, 1), 2);
        Due.is("16: pairs of spread 9", x.told(6, 7), 361);
        Due.is("16: ways of spread 9", x.told(6, 6), 190);
        Due.is("16: no ways", waysOfNone(), 0);
        Due.is("16: turns of a call", x.told(0, 9), NONE);
        Due.is("16: turns of one that is not ahead", x.told(4, 9), 0);
        Due.is("16: turns of a near one", x.told(3, 9), 1);
        x.move(0, 0, 1100);
        Due.is("16: no width turns it", x.told(3, 9), NONE);
        x.move(0, 0, 1090);
        Due.is("16: the last width turns it", x.told(3, 9), 999);
        Due.read(x, "count width < 500 or part = 3; near 0; play 0;");
        x.force(1);
        x.move(0, 0, 90);
        x.part(0, 1, 20);
        Due.is("16: parts that count by the width", x.told(0, 9), 500);
        Due.is("16: a lined one by the width", x.told(2, 9), 500);
        Due.read(x, "count 1; near 30 * (300 < width); play 0;");
        x.force(2);
        Due.is("16: near by the width", x.told(3, 9), 301);
        Due.read(x, "count width; near width; play 0;");
        x.force(3);
        Due.is("16: both by the width", x.told(3, 9), 0);
        x.move(0, 0, 92);
        Due.is("16: both by the width, and later", x.told(3, 9), 21);
        Due.is("16: turns do not change WIDTH", x.count(9), 3);
        Due.is("16: nor what is told then", x.told(3, 2), 4);
    }

    private static long waysOfNone() {
        ArmpitLine x = pair();
        x.call(2, 1, 0, 0, 0);
        return x.told(0, 6);
    }

    /** Promise 17 "CALLS (bits, of 24) that are OFFSIDE." */
    private static void offsideBits() {
        ArmpitLine x = pair();
        Due.is("17: no calls", x.offside(), 0);
        x.call(0, 1, 0, 0, 0);
        for (int c = 1; c < 24; c++) {
            x.call(3, 0, 1, 0, 0);
        }
        Due.is("17: all but the first", x.offside(), 0xfffffe);
        x.width(9);
        Due.is("17: none by that width", x.offside(), 0);
    }

    /** Promise 18; Terms 3 "BY WIDTHS: of told WIDTHS (a SHEET, 1 to 8 of them; each as if it were WIDTH) and told CALLS (bits)". */
    private static void wrongs() {
        ArmpitLine x = pair();
        Due.ints(x, 0, 8, 9, 0, 999);
        x.call(3, 0, 1, 0, 0);
        x.call(3, 1, 0, 0, 0);
        x.call(0, 0, 1, 0, 0);
        Due.is("18: by 8", x.wrong(0, 7, 0, 0), 0);
        Due.is("18: by 9", x.wrong(0, 7, 1, 0), 1);
        Due.is("18: by 999", x.wrong(0, 7, 3, 0), 1);
        Due.is("18: without that call", x.wrong(0, 6, 3, 0), 0);
        Due.is("18: of no calls", x.wrong(0, 0, 3, 0), 0);
        Due.is("18: wrong none", x.wrong(0, 7, 1, 1), 0);
        // flagged and fast: called, though he was behind
        x.man(2, 85, 50);
        x.call(1, 2, 1, 0, 0);
        Due.is("18: a wrong none", x.wrong(0, 15, 1, 1), 1);
        Due.is("18: and the wrong goal", x.wrong(0, 15, 1, 0), 1);
        // the true one is taken by the same width
        Due.read(x, "count not width = 8; near 0; play not width = 9;");
        x.force(1);
        Due.is("18: nobody in play by 9", x.wrong(0, 15, 1, 1), 0);
        Due.is("18: in play by 0", x.wrong(0, 15, 2, 1), 1);
        Due.is("18: WIDTH stays", x.count(9), 0);
        Due.is("18: i 4", x.wrong(0, 7, 4, 0), NONE);
        Due.is("18: i -1", x.wrong(0, 7, -1, 0), NONE);
        Due.is("18: sheet 4", x.wrong(4, 7, 0, 0), BAD);
        Due.is("18: sheet -1", x.wrong(-1, 7, 0, 0), BAD);
        Due.is("18: calls 16", x.wrong(0, 16, 0, 0), BAD);
        Due.is("18: calls -1", x.wrong(0, -1, 0, 0), BAD);
        Due.is("18: what 2", x.wrong(0, 7, 0, 2), BAD);
        Due.is("18: what -1", x.wrong(0, 7, 0, -1), BAD);
        Due.is("18: missing", x.wrong(1, 7, 9, 0), -11);
        Due.is("18: BAD ahead of -11", x.wrong(1, 16, 9, 0), BAD);
        x.sheet(1, 0, 0);
        Due.is("18: size 0", x.wrong(1, 7, 9, 0), BAD);
        x.sheet(1, 0, 9);
        Due.is("18: size 9", x.wrong(1, 7, 0, 0), BAD);
        x.sheet(1, 0, 8);
        Due.is("18: size 8", x.wrong(1, 7, 7, 0), 0);
        x.cell(1, 7, 200);
        Due.is("18: byte 200 is below 0, ahead of no such i", x.wrong(1, 7, 8, 0), BAD);
        Due.ints(x, 1, 1000);
        Due.is("18: 1000 is no width", x.wrong(1, 7, 0, 0), BAD);
    }

    /** Promise 19; Terms 3 "by two PRICES (0 .. 99 ..): the one by which all together cost least; of like ones the first." */
    private static void bests() {
        ArmpitLine x = pair();
        x.man(2, 85, 50);
        // a near one that is right while the width is below 9, and one that is from 44 on
        x.call(3, 0, 1, 0, 0);
        x.camera(20, 1, 0);
        x.call(3, 2, 1, 0, 10);
        Due.ints(x, 0, 500, 20, 8, 44, 5);
        Due.is("19: both prices", x.best(0, 3, 101), 500);
        Due.is("19: wrong goals are dear", x.best(0, 3, 201), 8);
        Due.is("19: wrong nones are dear", x.best(0, 3, 102), 500);
        Due.is("19: nothing costs", x.best(0, 3, 0), 500);
        Due.is("19: the second call alone", x.best(0, 2, 9999), 500);
        Due.is("19: the first call alone", x.best(0, 1, 9999), 8);
        Due.is("19: WIDTH stays", x.count(9), 0);
        x.call(3, 2, 1, 0, 10);
        Due.is("19: two wrong nones that cost nothing", x.best(0, 7, 100), 8);
        Due.is("19: two wrong nones for one goal", x.best(0, 7, 302), 500);
        Due.is("19: sheet 4", x.best(4, 3, 0), BAD);
        Due.is("19: calls 8", x.best(0, 8, 0), BAD);
        Due.is("19: calls -1", x.best(0, -1, 0), BAD);
        Due.is("19: prices -1", x.best(0, 3, -1), BAD);
        Due.is("19: prices 10000", x.best(0, 3, 10000), BAD);
        Due.is("19: missing", x.best(1, 3, 0), -11);
        Due.is("19: BAD ahead of -11", x.best(1, 3, 10000), BAD);
        Due.ints(x, 1, 3, -1);
        Due.is("19: no width", x.best(1, 3, 0), BAD);
        x.sheet(1, 2, 9);
        Due.is("19: size 9", x.best(1, 3, 0), BAD);
        x.sheet(1, 2, 0);
        Due.is("19: size 0", x.best(1, 3, 0), BAD);
        x.sheet(1, 2, 1);
        Due.is("19: size 1", x.best(1, 3, 9999), 0);
    }

    /** Promise 20 "its number. BAD; FULL."; Terms 3 "MATCHES (12 at most, numbered from 0): two SIDES (unlike), GOALS .. (0 .. 9)". */
    private static void matches() {
        ArmpitLine x = pair();
        x.call(0, 0, 1, 0, 0);
        int[][] bad = {{-1, 0, 0}, {0, 0, 0}, {11, 0, 0}, {33, 0, 0}, {4, 0, 0}, {40, 0, 0}, {9, 0, 0}, {-10, 0, 0},
            {1, -1, 0}, {1, 100, 0}, {1, 0, 2}, {1, 0, -1}, {MOST, 0, 0}, {LEAST, 0, 0}};
        for (int[] b : bad) {
            Due.is("20: bad", x.match(b[0], b[1], b[2]), BAD);
        }
        for (int m = 0; m < 12; m++) {
            Due.is("20: match " + m, x.match(m % 2 == 0 ? 32 : 3, 99, m % 2), m);
        }
        Due.is("20: the 13th", x.match(1, 0, 0), FULL);
        Due.is("20: BAD ahead of FULL", x.match(0, 0, 0), BAD);
        Due.is("20: count", x.count(4), 12);
    }

    /** Promise 21; Terms 3 "A TABLE by a WIDTH (as if that were WIDTH)", "POINTS (3 for more goals .., 1 for as many)". */
    private static void tables() {
        ArmpitLine x = pair();
        for (int side = 0; side < 4; side++) {
            Due.is("21: rank without matches", x.table(0, side, 3), 0);
        }
        x.man(3, 100, 0);
        x.call(3, 0, 1, 0, 0);
        x.call(3, 1, 0, 0, 0);
        x.call(3, 2, 1, 0, 0);
        x.match(1, 21, 7);
        x.match(23, 11, 1);
        // by width 9 on: calls 0 and 2 are goals too, but side 3 is not one of the first match
        long[][] by0 = {{1, 2, 2, 0}, {1, 2, 2, 0}, {1, 1, 1, 2}, {1, 1, 1, 2}};
        long[][] by9 = {{3, 3, 2, 0}, {0, 2, 3, 3}, {1, 1, 1, 1}, {1, 1, 1, 1}};
        for (int side = 0; side < 4; side++) {
            for (int what = 0; what < 4; what++) {
                Due.is("21: table(0, " + side + ", " + what + ")", x.table(0, side, what), by0[side][what]);
                Due.is("21: table(9, " + side + ", " + what + ")", x.table(9, side, what), by9[side][what]);
                Due.is("21: table(999, " + side + ", " + what + ")", x.table(999, side, what), by9[side][what]);
            }
        }
        x.match(23, 0, 0);
        x.match(32, 45, 0);
        Due.is("21: more points", x.table(9, 2, 0), 5);
        Due.is("21: rank 0", x.table(9, 2, 3), 0);
        Due.is("21: side 0 has fewer points", x.table(9, 0, 3), 1);
        Due.is("21: goals against", x.table(9, 3, 2), 6);
        Due.is("21: WIDTH stays", x.count(9), 0);
        int[][] bad = {{-1, 0, 0}, {1000, 0, 0}, {0, -1, 0}, {0, 4, 0}, {0, 0, -1}, {0, 0, 4}};
        for (int[] b : bad) {
            Due.is("21: bad", x.table(b[0], b[1], b[2]), BAD);
        }
        rankByDifference();
    }

    /** Promise 21; Terms 3 "or as many and a greater difference of goals". */
    private static void rankByDifference() {
        ArmpitLine x = new ArmpitLine();
        x.match(1, 20, 0);
        x.match(23, 30, 0);
        Due.is("21: a greater difference", x.table(0, 2, 3), 0);
        Due.is("21: a lesser one", x.table(0, 0, 3), 1);
        Due.is("21: lost by less", x.table(0, 1, 3), 2);
        Due.is("21: lost by more", x.table(0, 3, 3), 3);
    }

    /** Promise 22; Terms 3 "in how many pairs of neighbours of the SHEET some SIDE's RANK is another one." */
    private static void seasons() {
        ArmpitLine x = pair();
        x.call(3, 0, 1, 0, 0);
        x.match(1, 0, 1);
        Due.ints(x, 0, 0, 8, 9, 10, 8, 999, 999, 0);
        Due.is("22: turns", x.season(0), 4);
        Due.ints(x, 1, 999);
        Due.is("22: one width", x.season(1), 0);
        Due.ints(x, 1, 999, 0);
        Due.is("22: two widths", x.season(1), 1);
        Due.is("22: WIDTH stays", x.count(9), 0);
        Due.is("22: sheet 4", x.season(4), BAD);
        Due.is("22: sheet -1", x.season(-1), BAD);
        Due.is("22: missing", x.season(2), -11);
        x.sheet(2, 1, 0);
        Due.is("22: size 0", x.season(2), BAD);
        x.sheet(2, 1, 9);
        Due.is("22: size 9", x.season(2), BAD);
        Due.ints(x, 2, 0, 1000);
        Due.is("22: no width", x.season(2), BAD);
        // goals change, but no rank
        ArmpitLine y = pair();
        y.call(3, 0, 1, 0, 0);
        y.match(1, 50, 1);
        Due.ints(y, 0, 0, 9, 0);
        Due.is("22: no rank changes", y.season(0), 0);
        for (int side = 0; side < 4; side++) {
            Due.is("22: only the rank of side " + side, seasonOfOne(side), 1);
        }
    }

    /** A side is as high as the next one, till that one has a goal more; the last one is far below. */
    private static int seasonOfOne(int side) {
        int next = (side + 1) % 4;
        int third = (side + 2) % 4;
        int last = (side + 3) % 4;
        ArmpitLine x = new ArmpitLine();
        x.man(next, 100, 0);
        x.man(last, 90, 0);
        x.camera(1, 0, 0);
        x.crosser(0, 0);
        x.call(3, 0, 1, 0, 0);
        x.match(side * 10 + third, 50, 0);
        x.match(next * 10 + last, 50, 1);
        x.match(last * 10 + third, 0, 0);
        x.match(last * 10 + third, 9, 0);
        Due.ints(x, 0, 0, 9);
        return x.season(0);
    }

    /** Promise 23; Terms 3 "STAND: as if the PLACE of each MAN of a SIDE were less by half (cut)". */
    private static void stands() {
        ArmpitLine x = pair();
        x.man(0, 97, 0);
        x.call(0, 0, 1, 0, 0);
        x.call(0, 2, 1, 0, 0);
        x.call(0, 1, 0, 0, 0);
        x.call(0, 0, 2, 0, 0);
        x.width(10);
        Due.is("23: by the width that is", x.stand(0, 10, 15), 11);
        Due.is("23: half of 13, cut", x.stand(0, 23, 15), 11);
        Due.is("23: half of 14", x.stand(0, 24, 15), 9);
        Due.is("23: half of 19, cut", x.stand(0, 29, 15), 9);
        Due.is("23: half of 20", x.stand(0, 30, 15), 8);
        Due.is("23: told calls alone", x.stand(0, 10, 2), 2);
        Due.is("23: another side", x.stand(1, 10, 15), 0);
        Due.is("23: a lesser width: half of -10 further", x.stand(1, 0, 15), 0);
        x.move(1, 0, 95);
        Due.is("23: half of -9, cut toward 0", x.stand(1, 1, 4), 0);
        x.move(1, 0, 96);
        Due.is("23: half of -10", x.stand(1, 0, 4), 4);
        Due.is("23: half of -9 is not enough", x.stand(1, 1, 4), 0);
        Due.is("23: a side without calls", x.stand(3, 999, 15), 0);
        Due.is("23: the places stay", x.front(0, 0, 2), 100);
        Due.is("23: WIDTH stays", x.count(9), 10);
        int[][] bad = {{-1, 0, 0}, {4, 0, 0}, {0, -1, 0}, {0, 1000, 0}, {0, 0, -1}, {0, 0, 16}};
        for (int[] b : bad) {
            Due.is("23: bad", x.stand(b[0], b[1], b[2]), BAD);
        }
        // the told width is WIDTH, and a place may fall below 0
        Due.read(x, "count 1; near 0; play width = 999;");
        x.force(1);
        x.move(0, 0, 3);
        x.move(2, 0, 1);
        Due.is("23: below 0", x.stand(0, 999, 8), 8);
        Due.is("23: not in play by 998", x.stand(0, 998, 8), 0);
    }

    /** Promises 24 "BAD; FULL." and 25 "NONE."; Terms 3 "CASES (40 at most, numbered from 0)", "SPLIT". */
    private static void casesAndSplit() {
        ArmpitLine x = new ArmpitLine();
        Due.is("25: no cases", x.split(), 0);
        int[][] bad = {{-1, 0}, {64, 0}, {0, -1}, {0, 4}, {LEAST, 0}, {0, MOST}};
        for (int[] b : bad) {
            Due.is("24: bad", x.shown(b[0], b[1]), BAD);
        }
        Due.is("24: first", x.shown(63, 3), 0);
        Due.is("25: one word needs no mark", x.split(), 0);
        Due.is("24: second", x.shown(0, 2), 1);
        Due.is("25: any mark splits: the least", x.split(), 1);
        x.shown(1, 2);
        Due.is("25: not by mark 0", x.split(), 2);
        x.shown(62, 2);
        Due.is("25: two marks", x.split(), 3);
        x.shown(3, 2);
        Due.is("25: two others", x.split(), 5);
        x.shown(63, 0);
        Due.is("25: not even by all", x.split(), NONE);
        for (int c = 6; c < 40; c++) {
            Due.is("24: case " + c, x.shown(c, c % 4), c);
        }
        Due.is("24: the 41st", x.shown(0, 0), FULL);
        Due.is("24: BAD ahead of FULL", x.shown(64, 0), BAD);
        Due.is("24: count", x.count(5), 40);
        ArmpitLine y = new ArmpitLine();
        y.shown(32, 1);
        y.shown(0, 0);
        y.shown(3, 0);
        y.shown(28, 0);
        Due.is("25: the one mark", y.split(), 32);
        ArmpitLine z = new ArmpitLine();
        z.shown(35, 1);
        z.shown(1, 0);
        z.shown(2, 0);
        z.shown(0, 0);
        Due.is("25: one mark, though two are less as bits", z.split(), 32);
    }

    /** Promises 26 and 27 "STATE: there is none."; Terms 3 "(MEN that came since stay as they are)". */
    private static void images() {
        ArmpitLine x = new ArmpitLine();
        Due.is("27: none", x.back(), STATE);
        x.man(0, 10, 1);
        x.part(0, 2, 7);
        x.width(5);
        Due.is("26: image", x.image(), 5);
        x.move(0, 0, 20);
        x.move(0, 1, 2);
        x.part(0, 2, 8);
        x.man(1, 30, 3);
        x.part(1, 1, 9);
        x.part(1, 0, 91);
        x.width(6);
        Due.read(x, "count 1; near 1; play 1;");
        x.force(1);
        x.feed(1, 32);
        Due.is("27: back", x.back(), 5);
        Due.is("27: place", x.move(0, 0, 50), 10);
        Due.is("27: speed", x.move(0, 1, 51), 1);
        Due.is("27: part", x.part(0, 2, 52), 7);
        Due.is("27: who came since, stays", x.count(0), 2);
        Due.is("27: his place", x.front(1, 0, 2), 30);
        Due.is("27: his part", x.part(1, 1, 53), 9);
        Due.is("27: his head", x.part(1, 0, 92), 91);
        Due.is("27: width", x.width(54), 5);
        Due.is("27: rule", x.force(1), 0);
        Due.is("27: the text stays", x.count(6), 2);
        Due.is("27: the tape stays", x.count(7), 1);
        Due.is("27: back again", x.back(), 5);
        Due.is("27: place again", x.front(0, 0, 2), 10);
        Due.is("27: his part stays as it is", x.part(1, 1, 0), 53);
        x.move(0, 0, 60);
        x.width(61);
        Due.is("26: another image", x.image(), 61);
        x.move(0, 0, 70);
        x.width(71);
        Due.is("27: to the later one", x.back(), 61);
        Due.is("27: its place", x.front(0, 0, 2), 60);
    }

    /** Promise 28 "How many", "BAD." */
    private static void counts() {
        ArmpitLine x = pair();
        x.man(2, 0, 0);
        x.crosser(1, 1);
        x.crosser(1, 1);
        x.crosser(1, 1);
        x.camera(1, 1, 1);
        for (int c = 0; c < 5; c++) {
            x.call(0, 0, 1, 0, 0);
            x.call(0, 0, 1, 0, 0);
        }
        for (int m = 0; m < 6; m++) {
            x.match(1, 0, 0);
        }
        for (int c = 0; c < 7; c++) {
            x.shown(1, 1);
        }
        Due.read(x, "count 1; near 1; play 1;");
        x.force(1);
        x.feed(8, 0);
        x.width(77);
        long[] due = {3, 2, 4, 10, 6, 7, 2, 8, 1, 77};
        for (int what = 0; what < due.length; what++) {
            Due.is("28: count(" + what + ")", x.count(what), due[what]);
        }
        Due.is("28: count(10)", x.count(10), BAD);
        Due.is("28: count(-1)", x.count(-1), BAD);
        Due.is("28: count(least)", x.count(LEAST), BAD);
    }

    /** Promise 29 "all 0, or missing (sort -1: n does not matter)", "BAD: no such SHEET, sort; n above 40; -14." */
    private static void sheets() {
        ArmpitLine x = new ArmpitLine();
        Due.is("29: sheet -1", x.sheet(-1, 0, 1), BAD);
        Due.is("29: sheet 4", x.sheet(4, 0, 1), BAD);
        Due.is("29: sort -2", x.sheet(0, -2, 1), BAD);
        Due.is("29: sort 3", x.sheet(0, 3, 1), BAD);
        Due.is("29: n 41", x.sheet(0, 0, 41), BAD);
        Due.is("29: n -1", x.sheet(0, 0, -1), -14);
        Due.is("29: n least", x.sheet(0, 2, LEAST), -14);
        Due.is("29: BAD ahead of -14", x.sheet(0, 3, -1), BAD);
        Due.is("29: still missing", x.cell(0, 0, 0), -11);
        Due.is("29: n 0", x.sheet(0, 0, 0), 1);
        Due.is("29: no item", x.cell(0, 0, 0), -12);
        Due.is("29: n 40", x.sheet(3, 2, 40), 1);
        Due.is("29: item 39", x.cell(3, 39, 5), 1);
        Due.is("29: item 40", x.cell(3, 40, 5), -12);
        Due.is("29: missing, n does not matter", x.sheet(3, -1, 99), 1);
        Due.is("29: it is missing", x.cell(3, 39, 5), -11);
        Due.is("29: missing, n below 0", x.sheet(3, -1, -5), 1);
        x.sheet(1, 2, 3);
        x.cell(1, 0, 4);
        Due.is("29: a refusal changes nothing", x.sheet(1, 2, -1), -14);
        Due.is("29: the numbers stay: no side 4", x.men(1, 2, 0, 1), 0);
        x.sheet(1, 2, 3);
        Due.is("29: all 0 again", x.men(1, 2, 0, 1), 1);
    }

    /** Promise 30 "(of bytes, shorts its lowest 8, 16 bits)", "BAD: no such SHEET; -11; -12." */
    private static void cells() {
        ArmpitLine x = new ArmpitLine();
        Due.is("30: sheet -1", x.cell(-1, 0, 0), BAD);
        Due.is("30: sheet 4", x.cell(4, 0, 0), BAD);
        Due.is("30: missing", x.cell(0, -5, 0), -11);
        x.sheet(0, 0, 3);
        Due.is("30: i -1", x.cell(0, -1, 0), -12);
        Due.is("30: i 3", x.cell(0, 3, 0), -12);
        Due.is("30: i most", x.cell(0, MOST, 0), -12);
        // side 258 is 2, place 511 is -1 as a byte
        x.cell(0, 0, 258);
        x.cell(0, 1, 127);
        x.cell(0, 2, 256 - 99);
        Due.is("30: bytes", x.men(0, 0, 0, 1), 1);
        Due.is("30: his place", x.front(0, 0, 2), 127);
        Due.is("30: his speed", x.move(0, 1, 0), -99);
        x.cell(0, 1, 511);
        Due.is("30: a byte below 0", x.men(0, 0, 0, 1), 0);
        x.sheet(0, 1, 3);
        x.cell(0, 0, 65536 + 3);
        x.cell(0, 1, 9999);
        x.cell(0, 2, 65535);
        Due.is("30: shorts", x.men(0, 1, 0, 1), 1);
        Due.is("30: his speed by a short", x.move(1, 1, 0), -1);
        x.cell(0, 1, 40000);
        Due.is("30: a short below 0", x.men(0, 1, 0, 1), 0);
        x.sheet(0, 2, 3);
        x.cell(0, 0, 65536);
        Due.is("30: ints stay", x.men(0, 2, 0, 1), 0);
    }

    /** Promise 31 "(as they were)", "BAD: no such SHEET; -11; -13: they are of unlike sorts; -12 (also with n below 0)." */
    private static void copies() {
        ArmpitLine x = new ArmpitLine();
        Due.is("31: sheet 4", x.copy(4, 0, 0, 0, 0), BAD);
        Due.is("31: other -1", x.copy(0, 0, -1, 0, 0), BAD);
        Due.is("31: missing", x.copy(0, 0, 0, 0, -1), -11);
        x.sheet(0, 2, 5);
        Due.is("31: the other one is missing", x.copy(0, 0, 1, 0, 1), -11);
        Due.is("31: the first one is missing", x.copy(1, 0, 0, 0, 1), -11);
        x.sheet(1, 1, 3);
        Due.is("31: unlike sorts", x.copy(0, 0, 1, 0, 1), -13);
        Due.is("31: -13 ahead of -12", x.copy(0, -1, 1, 0, -1), -13);
        x.sheet(1, 2, 3);
        int[][] outside = {{-1, 0, 1}, {0, -1, 1}, {0, 0, -1}, {0, 0, 4}, {3, 0, 3}, {0, 1, 3}, {6, 0, 0}, {0, 4, 0},
            {MOST, 0, 1}, {0, MOST, 1}, {1, 1, MOST}, {0, 0, LEAST}, {LEAST, 0, 0}};
        for (int[] o : outside) {
            Due.is("31: outside", x.copy(0, o[0], 1, o[1], o[2]), -12);
        }
        Due.is("31: none at the ends", x.copy(0, 5, 1, 3, 0), 0);
        for (int i = 0; i < 5; i++) {
            x.cell(0, i, i + 1);
        }
        Due.is("31: three", x.copy(0, 2, 1, 0, 3), 3);
        Due.is("31: 3 4 5 came", x.men(1, 2, 0, 1), 1);
        Due.is("31: the place", x.front(0, 0, 2), 4);
        Due.is("31: the speed", x.move(0, 1, 0), 5);
        Due.is("31: onto itself", x.copy(0, 0, 0, 1, 4), 4);
        // 1 1 2 3 4
        Due.is("31: as they were", x.men(0, 2, 1, 1), 1);
        Due.is("31: place 2", x.front(1, 0, 2), 2);
        Due.is("31: speed 3", x.move(1, 1, 0), 3);
        x.copy(0, 1, 0, 0, 4);
        // 1 2 3 4 4
        Due.is("31: the other way", x.men(0, 2, 0, 1), 1);
        Due.is("31: place 2 again", x.front(2, 0, 2), 2);
        Due.is("31: speed 3 again", x.move(2, 1, 0), 3);
    }

    /** Promise 32 "(others are left out)", "BAD: no such SHEET, sort, n; -13; -11; -12: what stood ahead came." */
    private static void menBySheet() {
        ArmpitLine x = new ArmpitLine();
        Due.is("32: sheet 4", x.men(4, 0, 0, 0), BAD);
        Due.is("32: sheet -1", x.men(-1, 0, 0, 0), BAD);
        Due.is("32: sort -1", x.men(0, -1, 0, 0), BAD);
        Due.is("32: sort 3", x.men(0, 3, 0, 0), BAD);
        Due.is("32: n -1", x.men(0, 0, 0, -1), BAD);
        Due.is("32: n 11", x.men(0, 0, 0, 11), BAD);
        Due.is("32: missing, of any sort", x.men(0, 2, 0, 1), -11);
        x.sheet(0, 1, 40);
        Due.is("32: another sort", x.men(0, 2, 0, 1), -13);
        Due.is("32: another sort, n 0", x.men(0, 0, -9, 0), -13);
        Due.is("32: none", x.men(0, 1, 0, 0), 0);
        Due.is("32: none from outside", x.men(0, 1, -9, 0), 0);
        Due.is("32: from -1", x.men(0, 1, -1, 1), -12);
        Due.is("32: from 38", x.men(0, 1, 38, 1), -12);
        Due.is("32: from the most", x.men(0, 1, MOST, 2), -12);
        Due.is("32: from the least", x.men(0, 1, LEAST, 2), -12);
        Due.is("32: nobody came", x.count(0), 0);
        Due.is("32: the last", x.men(0, 1, 37, 1), 1);
        Due.is("32: what stood ahead came", x.men(0, 1, 31, 10), -12);
        Due.is("32: three of them", x.count(0), 4);
        x.cell(0, 3, 4);
        Due.is("32: others are left out", x.men(0, 1, 0, 4), 3);
        Due.is("32: seven", x.count(0), 7);
        Due.is("32: until it is full", x.men(0, 1, 6, 10), 3);
        Due.is("32: ten", x.count(0), 10);
        Due.is("32: full", x.men(0, 1, 6, 10), 0);
        Due.is("32: full, and outside", x.men(0, 1, 35, 10), -12);
    }

    /** Promise 33 "or one under that one (also by others between)", "BAD: k; -11: no such CALL; -13." */
    private static void taken() {
        ArmpitLine x = pair();
        Due.is("33: no call", x.taken(0, 0), -11);
        Due.is("33: BAD ahead of -11", x.taken(0, 6), BAD);
        for (int kind = 0; kind < 6; kind++) {
            x.call(kind, 0, 1, 20 + kind, 0);
        }
        boolean[][] under = {
            {true, false, false, false, false, false},
            {true, true, false, false, false, false},
            {true, false, true, false, false, false},
            {true, false, true, true, false, false},
            {true, true, false, false, true, false},
            {true, false, true, false, false, true}};
        for (int c = 0; c < 6; c++) {
            for (int k = 0; k < 6; k++) {
                Due.is("33: taken(" + c + ", " + k + ")", x.taken(c, k), under[c][k] ? 20 + c : -13);
            }
        }
        Due.is("33: k -1", x.taken(0, -1), BAD);
        Due.is("33: k 6", x.taken(0, 6), BAD);
        Due.is("33: call 6", x.taken(6, 0), -11);
        Due.is("33: call -1", x.taken(-1, 0), -11);
    }
}
