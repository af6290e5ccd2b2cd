/** The sentences on cameras and crossers: Terms 1, promises 6 to 9. */
final class CameraSentences {
    private static final int LEAST = Integer.MIN_VALUE, MOST = Integer.MAX_VALUE;
    private static final int BAD = ArmpitLine.BAD, FULL = ArmpitLine.FULL;
    private static final long NO = ArmpitLine.NO;

    private CameraSentences() {
    }

    static void all() {
        fourCameras();
        every();
        first();
        slant();
        whatItSees();
        latestFrame();
        firstFrame();
        camera();
        frame();
        sees();
        sixCrossers();
        lean();
        spread();
        crosses();
        crosser();
    }

    private static void fourCameras() {
        Due.sentence("Terms 1", "CAMERAS (4 at most, numbered from 0)");
        ArmpitLine x = new ArmpitLine();
        for (int c = 0; c < 4; c++) {
            Due.is("camera " + c, x.camera(1, c, 0), c);
        }
        Due.is("the fifth", x.camera(1, 0, 0), FULL);
        Due.is("there is a camera 3", x.frame(3, 0), 3);
        Due.is("there is no camera 4", x.frame(4, 0), BAD);
        Due.is("there is a camera 0", x.frame(0, 0), 0);
        Due.is("there is no camera -1", x.frame(-1, 0), BAD);
    }

    private static void every() {
        Due.sentence("Terms 1", "a frame each EVERY TICKS (1 .. 20)");
        ArmpitLine x = new ArmpitLine();
        Due.is("every 0", x.camera(0, 0, 0), BAD);
        Due.is("every 1", x.camera(1, 0, 0), 0);
        Due.is("every 20", x.camera(20, 0, 0), 1);
        Due.is("every 21", x.camera(21, 0, 0), BAD);
        Due.is("every -1", x.camera(-1, 0, 0), BAD);
        Due.is("the least int", x.camera(LEAST, 0, 0), BAD);
        Due.is("the greatest int", x.camera(MOST, 0, 0), BAD);
        Due.is("a frame each tick", x.frame(0, 19), 19);
        Due.is("19 ticks behind one", x.frame(1, 19), 0);
        Due.is("20 ticks behind one", x.frame(1, 20), 20);
        Due.is("39 ticks", x.frame(1, 39), 20);
        Due.is("40 ticks", x.frame(1, 40), 40);
    }

    private static void first() {
        Due.sentence("Terms 1", "from TICK FIRST (0 .. 19) on");
        ArmpitLine x = new ArmpitLine();
        Due.is("first -1", x.camera(5, -1, 0), BAD);
        Due.is("first 0", x.camera(5, 0, 0), 0);
        Due.is("first 19", x.camera(5, 19, 0), 1);
        Due.is("first 20", x.camera(5, 20, 0), BAD);
        Due.is("the least int", x.camera(5, LEAST, 0), BAD);
        Due.is("the greatest int", x.camera(5, MOST, 0), BAD);
        Due.is("from 0 on", x.frame(0, 4), 0);
        Due.is("from 19 on", x.frame(1, 23), 19);
        Due.is("24", x.frame(1, 24), 24);
    }

    private static void slant() {
        Due.sentence("Terms 1", "a SLANT (-9 .. 9)");
        ArmpitLine x = new ArmpitLine();
        Due.is("slant -10", x.camera(1, 0, -10), BAD);
        Due.is("slant -9", x.camera(1, 0, -9), 0);
        Due.is("slant 9", x.camera(1, 0, 9), 1);
        Due.is("slant 10", x.camera(1, 0, 10), BAD);
        Due.is("the least int", x.camera(1, 0, LEAST), BAD);
        Due.is("the greatest int", x.camera(1, 0, MOST), BAD);
        Due.is("9 less", x.sees(0, 1000), 991);
        Due.is("9 more", x.sees(1, 1000), 1009);
    }

    private static void whatItSees() {
        Due.sentence("Terms 1", "it sees what is at p as p and SLANT times p by 1000 (cut).");
        ArmpitLine x = new ArmpitLine();
        x.camera(1, 0, 9);
        x.camera(1, 0, 0);
        Due.is("999 by 1000", x.sees(0, 111), 111);
        Due.is("1008 by 1000", x.sees(0, 112), 113);
        Due.is("1998 by 1000", x.sees(0, 222), 223);
        Due.is("2007 by 1000", x.sees(0, 223), 225);
        Due.is("-999 by 1000", x.sees(0, -111), -111);
        Due.is("-1008 by 1000", x.sees(0, -112), -113);
        Due.is("at 0", x.sees(0, 0), 0);
        Due.is("without a slant", x.sees(1, 99999), 99999);
    }

    private static void latestFrame() {
        Due.sentence("Terms 1", "FRAME of a CAMERA for a TICK: the latest of its TICKS that is not behind it");
        ArmpitLine x = new ArmpitLine();
        x.camera(7, 3, 0);
        Due.is("a tick ahead of a frame", x.frame(0, 9), 3);
        Due.is("the tick of a frame", x.frame(0, 10), 10);
        Due.is("a tick behind a frame", x.frame(0, 11), 10);
        Due.is("ahead of the next one", x.frame(0, 16), 10);
        Due.is("the next one", x.frame(0, 17), 17);
        Due.is("the last tick", x.frame(0, 200), 199);
    }

    private static void firstFrame() {
        Due.sentence("Terms 1", "its first one, if there is none.");
        ArmpitLine x = new ArmpitLine();
        x.camera(2, 9, 0);
        Due.is("tick 0", x.frame(0, 0), 9);
        Due.is("some frames ahead", x.frame(0, 5), 9);
        Due.is("a tick ahead of the first", x.frame(0, 8), 9);
        Due.is("the first", x.frame(0, 9), 9);
        Due.is("a tick behind the first", x.frame(0, 10), 9);
        Due.is("the second", x.frame(0, 11), 11);
    }

    private static void camera() {
        Due.sentence("Promise 6", "A CAMERA: its number.");
        ArmpitLine x = new ArmpitLine();
        Due.is("the first", x.camera(1, 0, -9), 0);
        Due.is("the second", x.camera(20, 19, 9), 1);
        Due.is("cameras", x.count(1), 2);
        Due.sentence("Promise 6", "BAD");
        int[][] bad = {{0, 0, 0}, {21, 0, 0}, {1, -1, 0}, {1, 20, 0}, {1, 0, -10}, {1, 0, 10}};
        for (int[] b : bad) {
            Due.is("camera(" + b[0] + ", " + b[1] + ", " + b[2] + ")", x.camera(b[0], b[1], b[2]), BAD);
        }
        Due.is("none of them came", x.count(1), 2);
        Due.sentence("Promise 6", "FULL");
        Due.is("the third", x.camera(1, 1, 1), 2);
        Due.is("the fourth", x.camera(1, 1, 1), 3);
        Due.is("the fifth", x.camera(1, 1, 1), FULL);
        Due.is("four are there", x.count(1), 4);
    }

    private static void frame() {
        Due.sentence("Promise 7", "FRAME.");
        ArmpitLine x = new ArmpitLine();
        x.camera(3, 2, 0);
        x.camera(4, 1, 0);
        Due.is("of camera 0", x.frame(0, 7), 5);
        Due.is("of camera 1", x.frame(1, 8), 5);
        Due.is("of camera 1 in its frame", x.frame(1, 9), 9);
        Due.sentence("Promise 7", "BAD.");
        Due.is("camera -1", x.frame(-1, 7), BAD);
        Due.is("camera 2 of two", x.frame(2, 7), BAD);
        Due.is("camera 4", x.frame(4, 7), BAD);
        Due.is("tick -1", x.frame(0, -1), BAD);
        Due.is("tick 201", x.frame(0, 201), BAD);
        Due.is("tick 0", x.frame(0, 0), 2);
        Due.is("tick 200", x.frame(1, 200), 197);
    }

    private static void sees() {
        Due.sentence("Promise 8", "What a CAMERA sees of what is at p (-99999 .. 99999).");
        ArmpitLine x = new ArmpitLine();
        x.camera(1, 0, -9);
        x.camera(1, 0, 9);
        Due.is("p -100000", x.sees(0, -100000), NO);
        Due.is("p -99999", x.sees(0, -99999), -99100);
        Due.is("p 99999", x.sees(0, 99999), 99100);
        Due.is("p 100000", x.sees(0, 100000), NO);
        Due.is("by the other one", x.sees(1, -99999), -100898);
        Due.is("the greatest int", x.sees(0, MOST), NO);
        Due.sentence("Promise 8", "NO: none such.");
        Due.is("camera -1", x.sees(-1, 0), NO);
        Due.is("camera 0", x.sees(0, 1), 1);
        Due.is("camera 1", x.sees(1, 1), 1);
        Due.is("camera 2 of two", x.sees(2, 0), NO);
        Due.is("the least int", x.sees(0, LEAST), NO);
    }

    private static void sixCrossers() {
        Due.sentence("Terms 1", "CROSSERS (6 at most, numbered from 0)");
        ArmpitLine x = new ArmpitLine();
        for (int c = 0; c < 6; c++) {
            Due.is("crosser " + c, x.crosser(0, 0), c);
        }
        Due.is("the seventh", x.crosser(0, 0), FULL);
        x.man(0, 0, 0);
        x.man(0, 0, 0);
        x.camera(1, 0, 0);
        Due.is("a call by crosser 5", x.call(2, 0, 1, 0, 5), 0);
        Due.is("a call by crosser 6", x.call(2, 0, 1, 0, 6), BAD);
        Due.is("a call by crosser 0", x.call(2, 0, 1, 0, 0), 1);
    }

    private static void lean() {
        Due.sentence("Terms 1", "a LEAN (-20 .. 20)");
        ArmpitLine x = new ArmpitLine();
        Due.is("lean -21", x.crosser(-21, 0), BAD);
        Due.is("lean -20", x.crosser(-20, 0), 0);
        Due.is("lean 20", x.crosser(20, 0), 1);
        Due.is("lean 21", x.crosser(21, 0), BAD);
        Due.is("the least int", x.crosser(LEAST, 0), BAD);
        Due.is("the greatest int", x.crosser(MOST, 0), BAD);
        lined(x);
        Due.is("by -20", x.told(0, 1), -41);
        Due.is("by 20", x.told(1, 1), 39);
    }

    private static void spread() {
        Due.sentence("Terms 1", "and a SPREAD (0 .. 9)");
        ArmpitLine x = new ArmpitLine();
        Due.is("spread -1", x.crosser(0, -1), BAD);
        Due.is("spread 0", x.crosser(0, 0), 0);
        Due.is("spread 9", x.crosser(0, 9), 1);
        Due.is("spread 10", x.crosser(0, 10), BAD);
        Due.is("the least int", x.crosser(0, LEAST), BAD);
        Due.is("the greatest int", x.crosser(0, MOST), BAD);
        lined(x);
        Due.is("one pair by 0", x.told(0, 7), 1);
        Due.is("19 times 19 pairs by 9", x.told(1, 7), 361);
    }

    /** Calls 0 and 1, lined by crossers 0 and 1, of a man who runs and is level with one who stands in front by 1. */
    private static void lined(ArmpitLine x) {
        x.man(0, 99, 1);
        x.man(1, 100, 0);
        x.camera(20, 0, 0);
        x.call(2, 0, 1, 0, 0);
        x.call(2, 0, 1, 0, 1);
    }

    private static void crosses() {
        Due.sentence("Terms 1", "one puts a cross at p as p and LEAN and one of -SPREAD .. SPREAD (each alike).");
        ArmpitLine x = new ArmpitLine();
        x.crosser(1, 3);
        x.crosser(1, 3);
        lined(x);
        // 99 and 1 against 100 less 1: with crosses it is 1 + a - b, to be above 1: a above b
        Due.is("pairs", x.told(0, 7), 49);
        Due.is("half of those that are unlike", x.told(0, 6), 21);
        x.move(0, 0, 94);
        Due.is("only the utmost crosses: 3 against -3", x.told(0, 6), 1);
        x.move(0, 0, 93);
        Due.is("not even these", x.told(0, 6), 0);
        x.move(0, 0, 106);
        Due.is("all but the utmost: -3 against 3", x.told(0, 6), 49);
        x.move(0, 0, 105);
        Due.is("but one", x.told(0, 6), 48);
    }

    private static void crosser() {
        Due.sentence("Promise 9", "A CROSSER: its number.");
        ArmpitLine x = new ArmpitLine();
        Due.is("the first", x.crosser(-20, 0), 0);
        Due.is("the second", x.crosser(20, 9), 1);
        Due.is("crossers", x.count(2), 2);
        Due.sentence("Promise 9", "BAD");
        int[][] bad = {{-21, 0}, {21, 0}, {0, -1}, {0, 10}};
        for (int[] b : bad) {
            Due.is("crosser(" + b[0] + ", " + b[1] + ")", x.crosser(b[0], b[1]), BAD);
        }
        Due.is("none of them came", x.count(2), 2);
        Due.sentence("Promise 9", "FULL");
        for (int c = 2; c < 6; c++) {
            Due.is("crosser " + c, x.crosser(0, 0), c);
        }
        Due.is("the seventh", x.crosser(0, 0), FULL);
        Due.is("six are there", x.count(2), 6);
    }
}
