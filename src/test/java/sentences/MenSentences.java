/** The sentences on numbers, men, their parts and fronts: Terms 1, promises 1 to 5. */
final class MenSentences {
    private static final int LEAST = Integer.MIN_VALUE, MOST = Integer.MAX_VALUE;
    private static final int BAD = ArmpitLine.BAD, FULL = ArmpitLine.FULL;
    private static final long NO = ArmpitLine.NO;
    private static final int NONE_SUCH = -1000;

    private MenSentences() {
    }

    static void all() {
        constants();
        tenMen();
        sides();
        places();
        speeds();
        parts();
        offs();
        ticks();
        whereAManIs();
        quotients();
        newObject();
        man();
        part();
        move();
        fronts();
        frontOfNone();
        front();
        manyCalls();
    }

    private static void constants() {
        Due.sentence("Terms 1", "NONE is -1");
        Due.is("NONE", ArmpitLine.NONE, -1);
        Due.sentence("Terms 1", "NO, where a long is answered, -4611686018427387904.");
        Due.is("NO", NO, -4611686018427387904L);
        ArmpitLine x = new ArmpitLine();
        Due.is("front of nobody", x.front(0, 0, 0), -4611686018427387904L);
        Due.is("seen by none", x.sees(0, 0), -4611686018427387904L);
        Due.is("said of nobody", x.says(0, 0, 0, 0), -4611686018427387904L);
        Due.is("told of none", x.told(0, 0), -4611686018427387904L);
        Due.sentence("Terms 1", "BAD (-2: a number is none such or not as told), STATE (-3), FULL (-4)");
        Due.is("BAD", BAD, -2);
        Due.is("STATE", ArmpitLine.STATE, -3);
        Due.is("FULL", FULL, -4);
        Due.is("a number that is none such", x.frame(0, 0), -2);
        Due.is("a number not as told", x.width(1000), -2);
        Due.is("no state for it", x.back(), -3);
    }

    private static void tenMen() {
        Due.sentence("Terms 1", "MEN (10 at most, numbered from 0)");
        ArmpitLine x = new ArmpitLine();
        for (int m = 0; m < 10; m++) {
            Due.is("man " + m, x.man(m % 4, 100 + m, 0), m);
        }
        Due.is("the eleventh", x.man(0, 0, 0), -4);
        Due.is("there is a man 9", x.front(9, 0, 2), 109);
        Due.is("there is no man 10", x.front(10, 0, 2), NO);
        Due.is("there is a man 0", x.front(0, 0, 2), 100);
        Due.is("there is no man -1", x.front(-1, 0, 2), NO);
    }

    private static void sides() {
        Due.sentence("Terms 1", "a SIDE (0 .. 3)");
        ArmpitLine x = new ArmpitLine();
        Due.rule(x, "count team; near 0; play 1;");
        Due.is("side -1", x.man(-1, 0, 0), BAD);
        Due.is("side 0", x.man(0, 0, 0), 0);
        Due.is("side 3", x.man(3, 0, 0), 1);
        Due.is("side 4", x.man(4, 0, 0), BAD);
        Due.is("the least int", x.man(LEAST, 0, 0), BAD);
        Due.is("the greatest int", x.man(MOST, 0, 0), BAD);
        Due.is("his is 0", x.says(0, 0, 0, 0), 0);
        Due.is("his is 3", x.says(1, 0, 0, 0), 3);
        Due.is("a table of side -1", x.table(0, -1, 0), BAD);
        Due.is("a table of side 0", x.table(0, 0, 0), 0);
        Due.is("a table of side 3", x.table(0, 3, 0), 0);
        Due.is("a table of side 4", x.table(0, 4, 0), BAD);
    }

    private static void places() {
        Due.sentence("Terms 1", "a PLACE (0 .. 9999 hairs, as TICK 0 was)");
        ArmpitLine x = new ArmpitLine();
        Due.is("place -1", x.man(0, -1, 5), BAD);
        Due.is("place 0", x.man(0, 0, 5), 0);
        Due.is("place 9999", x.man(0, 9999, 5), 1);
        Due.is("place 10000", x.man(0, 10000, 5), BAD);
        Due.is("the least int", x.man(0, LEAST, 5), BAD);
        Due.is("the greatest int", x.man(0, MOST, 5), BAD);
        Due.is("0 in tick 0", x.front(0, 0, 2), 0);
        Due.is("9999 in tick 0", x.front(1, 0, 2), 9999);
        Due.is("no more in tick 1", x.front(1, 1, 2), 10004);
        Due.is("moved to -1", x.move(0, 0, -1), NONE_SUCH);
        Due.is("moved to 9999", x.move(0, 0, 9999), 0);
        Due.is("moved to 10000", x.move(0, 0, 10000), NONE_SUCH);
        Due.is("moved to 0", x.move(0, 0, 0), 9999);
    }

    private static void speeds() {
        Due.sentence("Terms 1", "a SPEED (-99 .. 99 hairs a TICK)");
        ArmpitLine x = new ArmpitLine();
        Due.is("speed -100", x.man(0, 500, -100), BAD);
        Due.is("speed -99", x.man(0, 500, -99), 0);
        Due.is("speed 99", x.man(0, 500, 99), 1);
        Due.is("speed 100", x.man(0, 500, 100), BAD);
        Due.is("the least int", x.man(0, 500, LEAST), BAD);
        Due.is("the greatest int", x.man(0, 500, MOST), BAD);
        Due.is("99 back in a tick", x.front(0, 1, 2), 401);
        Due.is("99 on in a tick", x.front(1, 1, 2), 599);
        Due.is("moved to -100", x.move(1, 1, -100), NONE_SUCH);
        Due.is("moved to -99", x.move(1, 1, -99), 99);
        Due.is("moved to 100", x.move(1, 1, 100), NONE_SUCH);
        Due.is("moved to 99", x.move(1, 1, 99), -99);
    }

    private static void parts() {
        Due.sentence("Terms 1", "four PARTS (0 head, 1 shoulder, 2 knee, 3 foot)");
        ArmpitLine x = new ArmpitLine();
        x.man(0, 500, 0);
        Due.is("part -1", x.part(0, -1, 1), NONE_SUCH);
        Due.is("part 0", x.part(0, 0, 10), 0);
        Due.is("part 1", x.part(0, 1, 11), 0);
        Due.is("part 2", x.part(0, 2, 12), 0);
        Due.is("part 3", x.part(0, 3, 13), 0);
        Due.is("part 4", x.part(0, 4, 1), NONE_SUCH);
        for (int p = 0; p < 4; p++) {
            Due.is("each is its own: " + p, x.part(0, p, 10 + p), 10 + p);
        }
        Due.is("nothing is said of part -1", x.says(0, -1, 0, 0), NO);
        for (int m = 1; m < 10; m++) {
            x.man(0, 0, 0);
        }
        for (int k = 4; k < 40; k++) {
            x.part(k / 4, k % 4, k);
        }
        for (int m = 1; m < 10; m++) {
            Due.is("front of man " + m, x.front(m, 0, 0), 4 * m + 3);
            for (int p = 0; p < 4; p++) {
                Due.is("part " + p + " of man " + m, x.part(m, p, 0), 4 * m + p);
            }
        }
        Due.is("part 0 is the head, which does not count at first", x.says(0, 0, 0, 0), 0);
        Due.is("part 3 is the foot, which does", x.says(0, 3, 0, 0), 1);
        Due.is("nothing is said of part 4", x.says(0, 4, 0, 0), NO);
    }

    private static void offs() {
        Due.sentence("Terms 1", "each so many hairs ahead (-199 .. 199; 0 at first)");
        ArmpitLine x = new ArmpitLine();
        x.man(0, 500, 0);
        for (int p = 0; p < 4; p++) {
            Due.is("0 at first: " + p, x.part(0, p, -199), 0);
            Due.is("-200", x.part(0, p, -200), NONE_SUCH);
            Due.is("-199 stands", x.part(0, p, 199), -199);
            Due.is("200", x.part(0, p, 200), NONE_SUCH);
            Due.is("199 stands", x.part(0, p, 0), 199);
            Due.is("the least int", x.part(0, p, LEAST), NONE_SUCH);
            Due.is("the greatest int", x.part(0, p, MOST), NONE_SUCH);
        }
        x.man(0, 0, 0);
        for (int p = 0; p < 4; p++) {
            Due.is("0 at first of a later man: " + p, x.part(1, p, 0), 0);
        }
    }

    private static void ticks() {
        Due.sentence("Terms 1", "TICKS are 0 .. 200");
        ArmpitLine x = new ArmpitLine();
        x.man(0, 500, 1);
        x.man(0, 500, 1);
        x.camera(1, 0, 0);
        x.crosser(0, 0);
        int[] none = {-1, 201, LEAST, MOST};
        for (int t : none) {
            Due.is("front in tick " + t, x.front(0, t, 2), NO);
            Due.is("frame for tick " + t, x.frame(0, t), BAD);
            Due.is("said of tick " + t, x.says(0, 1, t, 0), NO);
            Due.is("a call of tick " + t, x.call(0, 0, 1, t, 0), BAD);
        }
        Due.is("front in tick 0", x.front(0, 0, 2), 500);
        Due.is("front in tick 200", x.front(0, 200, 2), 700);
        Due.is("frame for tick 0", x.frame(0, 0), 0);
        Due.is("frame for tick 200", x.frame(0, 200), 200);
        Due.is("said of tick 0", x.says(0, 1, 0, 0), 1);
        Due.is("said of tick 200", x.says(0, 1, 200, 0), 1);
        Due.is("a call of tick 0", x.call(0, 0, 1, 0, 0), 0);
        Due.is("a call of tick 200", x.call(0, 0, 1, 200, 0), 1);
    }

    private static void whereAManIs() {
        Due.sentence("Terms 1", "where a MAN is in TICK t: PLACE and t times SPEED");
        ArmpitLine x = new ArmpitLine();
        x.man(0, 9999, 99);
        x.man(0, 0, -99);
        x.man(0, 77, 0);
        Due.is("in tick 0", x.front(0, 0, 2), 9999);
        Due.is("in tick 1", x.front(0, 1, 2), 10098);
        Due.is("the furthest", x.front(0, 200, 2), 29799);
        Due.is("below 0 in tick 1", x.front(1, 1, 2), -99);
        Due.is("the least far", x.front(1, 200, 2), -19800);
        Due.is("one who stands", x.front(2, 200, 2), 77);
    }

    private static void quotients() {
        Due.sentence("Terms 1", "Quotients are cut toward 0.");
        ArmpitLine x = new ArmpitLine();
        x.camera(1, 0, 1);
        Due.is("999 by 1000", x.sees(0, 999), 999);
        Due.is("1000 by 1000", x.sees(0, 1000), 1001);
        Due.is("-999 by 1000", x.sees(0, -999), -999);
        Due.is("-1000 by 1000", x.sees(0, -1000), -1001);
        Due.is("-1999 by 1000", x.sees(0, -1999), -2000);
        Due.is("half of -1 in stand(), cut", standAfter(0), 0);
        Due.is("half of -2 in stand()", standAfter(1), 1);
    }

    /** Two men are level; one's side stands by a width that is 1 and this much less than WIDTH. */
    private static int standAfter(int more) {
        ArmpitLine x = new ArmpitLine();
        x.man(0, 500, 0);
        x.man(1, 500, 0);
        x.camera(1, 0, 0);
        x.crosser(0, 0);
        x.call(0, 0, 1, 0, 0);
        x.width(20);
        return x.stand(0, 19 - more, 1);
    }

    private static void newObject() {
        Due.sentence("Promise 1", "No MEN");
        ArmpitLine before = new ArmpitLine();
        before.man(1, 2, 3);
        before.width(99);
        ArmpitLine x = new ArmpitLine();
        Due.is("men", x.count(0), 0);
        Due.is("there is no man 0", x.front(0, 0, 2), NO);
        Due.is("the first one is man 0", x.man(0, 7, 0), 0);
        Due.is("there is a man 0", x.front(0, 0, 2), 7);
        Due.sentence("Promise 1", "WIDTH 0.");
        Due.is("width by count", x.count(9), 0);
        Due.is("width as it was", x.width(1), 0);
        Due.is("another object has its own", before.width(1), 99);
    }

    private static void man() {
        Due.sentence("Promise 2", "A MAN: his number.");
        ArmpitLine x = new ArmpitLine();
        Due.is("the first", x.man(3, 10, 1), 0);
        Due.is("the second, like the first", x.man(3, 10, 1), 1);
        Due.is("the third", x.man(0, 9, 2), 2);
        Due.is("where the first is", x.front(0, 1, 2), 11);
        Due.is("where the third is", x.front(2, 1, 2), 11);
        Due.is("men", x.count(0), 3);
        Due.sentence("Promise 2", "BAD");
        int[][] bad = {{-1, 0, 0}, {4, 0, 0}, {0, -1, 0}, {0, 10000, 0}, {0, 0, -100}, {0, 0, 100}};
        for (int[] b : bad) {
            Due.is("man(" + b[0] + ", " + b[1] + ", " + b[2] + ")", x.man(b[0], b[1], b[2]), BAD);
        }
        Due.is("none of them came", x.count(0), 3);
        Due.is("least of all", x.man(0, 0, -99), 3);
        Due.is("most of all", x.man(3, 9999, 99), 4);
        Due.sentence("Promise 2", "FULL");
        for (int m = 5; m < 9; m++) {
            x.man(0, 0, 0);
        }
        Due.is("the tenth", x.man(2, 4, 4), 9);
        Due.is("the eleventh", x.man(2, 4, 4), FULL);
        Due.is("and one more", x.man(2, 4, 4), FULL);
        Due.is("ten are there", x.count(0), 10);
    }

    private static void part() {
        Due.sentence("Promise 3", "PART of a MAN: how far ahead it was.");
        ArmpitLine x = new ArmpitLine();
        x.man(0, 100, 0);
        x.man(1, 100, 0);
        Due.is("at first", x.part(0, 1, 30), 0);
        Due.is("then", x.part(0, 1, -30), 30);
        Due.is("then again", x.part(0, 1, 0), -30);
        Due.is("another man's", x.part(1, 1, 5), 0);
        Due.is("the front moves", x.front(1, 0, 0), 105);
        Due.sentence("Promise 3", "-1000: none such.");
        Due.is("man -1", x.part(-1, 1, 6), NONE_SUCH);
        Due.is("man 2 of two", x.part(2, 1, 6), NONE_SUCH);
        Due.is("man 10", x.part(10, 1, 6), NONE_SUCH);
        Due.is("part -1", x.part(1, -1, 6), NONE_SUCH);
        Due.is("part 4", x.part(1, 4, 6), NONE_SUCH);
        Due.is("off -200", x.part(1, 1, -200), NONE_SUCH);
        Due.is("off 200", x.part(1, 1, 200), NONE_SUCH);
        Due.is("part 4 of man 0 is no part of man 1", x.part(0, 4, 77), NONE_SUCH);
        Due.is("man 1 and his head stay", x.part(1, 0, 0), 0);
        Due.is("his shoulder stays", x.part(1, 1, 0), 5);
        Due.is("man 1, part 3, off 199", x.part(1, 3, 199), 0);
        Due.is("man 0, part 0, off -199", x.part(0, 0, -199), 0);
    }

    private static void move() {
        Due.sentence("Promise 4", "PLACE (what 0), SPEED (1) of a MAN become v: what was.");
        ArmpitLine x = new ArmpitLine();
        x.man(0, 100, 7);
        x.man(0, 200, 8);
        Due.is("place", x.move(1, 0, 300), 200);
        Due.is("speed", x.move(1, 1, 9), 8);
        Due.is("both are so", x.front(1, 1, 2), 309);
        Due.is("the other man's are as they were", x.front(0, 1, 2), 107);
        Due.sentence("Promise 4", "-1000: none such.");
        Due.is("man -1", x.move(-1, 0, 1), NONE_SUCH);
        Due.is("man 2 of two", x.move(2, 0, 1), NONE_SUCH);
        Due.is("what -1", x.move(1, -1, 1), NONE_SUCH);
        Due.is("what 2", x.move(1, 2, 1), NONE_SUCH);
        Due.is("place -1", x.move(1, 0, -1), NONE_SUCH);
        Due.is("place 10000", x.move(1, 0, 10000), NONE_SUCH);
        Due.is("speed -100", x.move(1, 1, -100), NONE_SUCH);
        Due.is("speed 100", x.move(1, 1, 100), NONE_SUCH);
        Due.is("nothing moved", x.front(1, 1, 2), 309);
        Due.is("place 0", x.move(1, 0, 0), 300);
        Due.is("place 9999", x.move(1, 0, 9999), 0);
        Due.is("a place may be what a speed may not", x.move(1, 0, 100), 9999);
        Due.is("speed -99", x.move(1, 1, -99), 9);
        Due.is("speed 99", x.move(1, 1, 99), -99);
    }

    private static void fronts() {
        Due.sentence("Terms 1", "FRONT of a MAN in a TICK: where he is and the greatest off of his PARTS that count");
        ArmpitLine x = new ArmpitLine();
        x.man(0, 1000, 5);
        x.part(0, 0, 150);
        Due.is("a part that does not count is not asked", x.front(0, 10, 0), 1050);
        x.part(0, 1, 10);
        x.part(0, 2, 11);
        x.part(0, 3, 9);
        Due.is("the greatest", x.front(0, 10, 0), 1061);
        x.part(0, 3, 12);
        Due.is("another one is the greatest", x.front(0, 10, 0), 1062);
        x.part(0, 1, -10);
        x.part(0, 2, -11);
        x.part(0, 3, -9);
        Due.is("all behind him: the greatest is below 0", x.front(0, 0, 0), 991);
        Due.sentence("Terms 1", "(of like ones the least PART is foremost)");
        Due.is("the foot alone", x.front(0, 0, 1), 3);
        x.part(0, 2, -9);
        Due.is("knee and foot are alike", x.front(0, 0, 1), 2);
        x.part(0, 1, -9);
        Due.is("all three are alike", x.front(0, 0, 1), 1);
        x.part(0, 0, -9);
        Due.is("the head is alike, but does not count", x.front(0, 0, 1), 1);
        x.part(0, 2, -8);
        Due.is("the knee is a hair further", x.front(0, 0, 1), 2);
    }

    private static void frontOfNone() {
        Due.sentence("Terms 1", "without any where he is (PART 3 is foremost).");
        ArmpitLine x = new ArmpitLine();
        x.man(0, 1000, 5);
        for (int p = 0; p < 4; p++) {
            x.part(0, p, 50 - p);
        }
        Due.rule(x, "count part = 2 and tick = 7; near 0; play 1;");
        Due.is("in tick 6 none counts", x.front(0, 6, 0), 1030);
        Due.is("the foot is foremost", x.front(0, 6, 1), 3);
        Due.is("in tick 7 one counts", x.front(0, 7, 0), 1083);
        Due.is("it is foremost", x.front(0, 7, 1), 2);
        Due.is("in tick 8 none counts", x.front(0, 8, 0), 1040);
    }

    private static void front() {
        Due.sentence("Promise 5", "FRONT of a MAN in a TICK (what 0), the PART that is foremost (1), where he is (2).");
        ArmpitLine x = new ArmpitLine();
        x.man(0, 1000, -5);
        x.part(0, 2, 33);
        Due.is("front", x.front(0, 3, 0), 1018);
        Due.is("foremost", x.front(0, 3, 1), 2);
        Due.is("where he is", x.front(0, 3, 2), 985);
        Due.sentence("Promise 5", "NO: none such.");
        Due.is("man -1", x.front(-1, 3, 0), NO);
        Due.is("man 1 of one", x.front(1, 3, 0), NO);
        Due.is("tick -1", x.front(0, -1, 0), NO);
        Due.is("tick 201", x.front(0, 201, 0), NO);
        Due.is("what -1", x.front(0, 3, -1), NO);
        Due.is("what 3", x.front(0, 3, 3), NO);
        Due.is("the least of all", x.front(LEAST, LEAST, LEAST), NO);
        Due.is("man 0, tick 0", x.front(0, 0, 0), 1033);
        Due.is("man 0, tick 200", x.front(0, 200, 0), 33);
    }

    private static void manyCalls() {
        Due.sentence("What it is", "An object is used for at most 512 calls after it has been made");
        ArmpitLine x = new ArmpitLine();
        x.man(0, 0, 0);
        for (int n = 2; n < 512; n++) {
            x.move(0, 0, n);
        }
        Due.is("the 512th call", x.front(0, 0, 2), 511);
        for (int n = 0; n < 512; n++) {
            x.man(0, 0, 0);
            x.feed(8, n);
        }
        Due.holds("what later calls answer is free, but none throws", true);
    }
}
