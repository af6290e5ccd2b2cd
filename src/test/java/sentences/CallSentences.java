/** The sentences on calls: Terms 2, promises 15 to 17. */
final class CallSentences {
    private static final int LEAST = Integer.MIN_VALUE, MOST = Integer.MAX_VALUE;
    private static final int NONE = ArmpitLine.NONE, BAD = ArmpitLine.BAD, FULL = ArmpitLine.FULL;
    private static final long NO = ArmpitLine.NO;
    private static final int KINDS = 6;

    private CallSentences() {
    }

    static void all() {
        calls();
        kinds();
        whatACallHas();
        marginOfCall();
        marginOfFlagged();
        marginOfLined();
        leanBySpeed();
        marginOfNear();
        marginOfWaited();
        marginOfMachine();
        ahead();
        bands();
        bandOfNear();
        offside();
        wrong();
        ways();
        waysOfMachinesAndOthers();
        frameError();
        turns();
        turnsLeast();
        call();
        callBad();
        callFull();
        told();
        toldNone();
        offsideBits();
    }

    /** Two men who stand so far apart, a straight camera that sees each tick, a crosser who puts no cross beside. */
    private static ArmpitLine pair(int apart) {
        ArmpitLine x = new ArmpitLine();
        x.man(0, 500 + apart, 0);
        x.man(1, 500, 0);
        x.camera(1, 0, 0);
        x.crosser(0, 0);
        return x;
    }

    /** Calls 0 to 5 of kinds 0 to 5, man 0 against man 1. */
    private static void oneOfEachKind(ArmpitLine x, int tick, int by) {
        for (int kind = 0; kind < KINDS; kind++) {
            x.call(kind, 0, 1, tick, by);
        }
    }

    private static void calls() {
        Due.sentence("Terms 2", "CALLS (24 at most, numbered from 0)");
        ArmpitLine x = pair(1);
        for (int c = 0; c < 24; c++) {
            Due.is("call " + c, x.call(c % KINDS, 0, 1, c, 0), c);
        }
        Due.is("the 25th", x.call(0, 0, 1, 0, 0), FULL);
        Due.is("there is a call 23", x.taken(23, 0), 23);
        Due.is("there is no call 24", x.taken(24, 0), -11);
        Due.is("there is a call 0", x.taken(0, 0), 0);
        Due.is("there is no call -1", x.taken(-1, 0), -11);
    }

    private static void kinds() {
        Due.sentence("Terms 2", "have a KIND: 0 CALL, 1 FLAGGED under CALL, 2 LINED under CALL, 3 NEAR under LINED,"
                + " 4 WAITED under FLAGGED, 5 MACHINE under LINED");
        ArmpitLine x = pair(1);
        Due.is("kind -1", x.call(-1, 0, 1, 7, 0), BAD);
        Due.is("kind 6", x.call(6, 0, 1, 7, 0), BAD);
        for (int kind = 0; kind < KINDS; kind++) {
            Due.is("kind " + kind, x.call(kind, 0, 1, 7, 0), kind);
            Due.is("its kind", x.told(kind, 0), kind);
        }
        int[][] under = {{0}, {0, 1}, {0, 2}, {0, 2, 3}, {0, 1, 4}, {0, 2, 5}};
        for (int kind = 0; kind < KINDS; kind++) {
            int those = 0;
            for (int above : under[kind]) {
                those |= 1 << above;
            }
            for (int k = 0; k < KINDS; k++) {
                Due.is("kind " + kind + " is or is under " + k, x.taken(kind, k), (those >> k & 1) == 1 ? 7 : -13);
            }
        }
    }

    private static void whatACallHas() {
        Due.sentence("Terms 2", "a MAN who attacks, one who defends (another one), a TICK in which the ball left,"
                + " a CAMERA, a CROSSER.");
        ArmpitLine x = pair(7);
        x.man(2, 800, 0);
        Due.is("a man against himself", x.call(0, 1, 1, 0, 0), BAD);
        Due.is("against another one", x.call(0, 0, 1, 0, 0), 0);
        Due.is("the other way round", x.call(0, 1, 0, 0, 0), 1);
        Due.is("the last against the first", x.call(0, 2, 0, 0, 0), 2);
        Due.is("the first attacks", x.told(0, 1), 7);
        Due.is("the second attacks", x.told(1, 1), -7);
        Due.is("the third attacks", x.told(2, 1), 293);
        Due.is("no such man attacks", x.call(0, 3, 0, 0, 0), BAD);
        Due.is("no such man defends", x.call(0, 0, 3, 0, 0), BAD);
    }

    private static void marginOfCall() {
        Due.sentence("Terms 2", "MARGIN (hairs that the first one's FRONT is beyond the other one's):"
                + " CALL: as it truly was in that TICK.");
        ArmpitLine x = pair(10);
        x.move(0, 1, -1);
        x.move(1, 1, 1);
        x.camera(20, 0, 9);
        x.crosser(20, 9);
        x.call(0, 0, 1, 4, 11);
        x.call(0, 0, 1, 5, 11);
        x.call(0, 0, 1, 6, 11);
        Due.is("beyond by 2", x.told(0, 1), 2);
        Due.is("level", x.told(1, 1), 0);
        Due.is("behind by 2", x.told(2, 1), -2);
        x.part(0, 3, 30);
        x.part(1, 1, 20);
        Due.is("by parts", x.told(1, 1), 10);
    }

    private static void marginOfFlagged() {
        Due.sentence("Terms 2", "FLAGGED: a CALL's, and twice the difference of their SPEEDS (his less the other's).");
        ArmpitLine x = pair(10);
        x.call(1, 0, 1, 0, 0);
        Due.is("like speeds", x.told(0, 1), 10);
        x.move(0, 1, 1);
        Due.is("he is faster by 1", x.told(0, 1), 12);
        x.move(1, 1, 2);
        Due.is("he is slower by 1", x.told(0, 1), 8);
        x.move(0, 1, -99);
        x.move(1, 1, 99);
        Due.is("slower by the most", x.told(0, 1), 10 - 396);
        x.move(0, 1, 99);
        x.move(1, 1, -99);
        Due.is("faster by the most", x.told(0, 1), 10 + 396);
    }

    private static void marginOfLined() {
        Due.sentence("Terms 2", "LINED: of both FRONTS as the CAMERA sees them in its FRAME for that TICK");
        ArmpitLine x = new ArmpitLine();
        x.man(0, 999, 1);
        x.man(1, 999, 0);
        x.camera(5, 2, 1);
        x.crosser(0, 0);
        x.call(2, 0, 1, 6, 0);
        x.call(2, 0, 1, 7, 0);
        x.call(2, 0, 1, 0, 0);
        // in frame 2 the first one is at 1001, seen as 1002; the other one at 999, seen there
        Due.is("tick 6: frame 2", x.told(0, 1), 3);
        Due.is("tick 7: frame 7", x.told(1, 1), 8);
        Due.is("tick 0: frame 2, too", x.told(2, 1), 3);
        x.part(1, 2, 1);
        Due.is("the front is what is seen, not the man: 1000 as 1001", x.told(0, 1), 1);
        Due.rule(x, "count tick = 2; near 0; play 1;");
        Due.is("parts count in the frame", x.told(0, 1), 1);
        Due.rule(x, "count tick = 6; near 0; play 1;");
        Due.is("not in the tick", x.told(0, 1), 3);
    }

    private static void leanBySpeed() {
        Due.sentence("Terms 2", "each with the CROSSER's LEAN, if the MAN's SPEED is above 0, else less it.");
        ArmpitLine x = new ArmpitLine();
        x.man(0, 500, 1);
        x.man(1, 500, 1);
        x.camera(20, 0, 0);
        x.crosser(7, 0);
        x.call(2, 0, 1, 0, 0);
        Due.is("both go on", x.told(0, 1), 0);
        x.move(1, 1, 0);
        Due.is("the other one stands", x.told(0, 1), 14);
        x.move(1, 1, -1);
        Due.is("the other one goes back", x.told(0, 1), 14);
        x.move(0, 1, 0);
        Due.is("the first one stands", x.told(0, 1), 0);
        x.move(0, 1, -1);
        Due.is("both go back", x.told(0, 1), 0);
        x.move(1, 1, 1);
        Due.is("the other one goes on", x.told(0, 1), -14);
    }

    /** The margins of the six kinds for men whose speeds, parts, camera and crosser all have a say. */
    private static ArmpitLine mixed() {
        ArmpitLine x = new ArmpitLine();
        x.man(0, 1000, 6);
        x.man(1, 2000, -4);
        x.part(0, 1, 11);
        x.part(1, 3, 22);
        x.camera(10, 5, -8);
        x.crosser(20, 1);
        oneOfEachKind(x, 12, 0);
        return x;
    }

    private static void marginOfNear() {
        Due.sentence("Terms 2", "NEAR: as a LINED one's.");
        ArmpitLine x = mixed();
        // in frame 5: 1041 is seen as 1033, 2002 as 1986
        Due.is("a lined one's", x.told(2, 1), 1033 + 20 - (1986 - 20));
        Due.is("a near one's", x.told(3, 1), 1033 + 20 - (1986 - 20));
        x.width(999);
        Due.is("by the greatest width", x.told(3, 1), -913);
    }

    private static void marginOfWaited() {
        Due.sentence("Terms 2", "WAITED: a FLAGGED one's, less 10.");
        ArmpitLine x = mixed();
        // in tick 12: 1083 and 1974
        Due.is("a flagged one's", x.told(1, 1), 1083 - 1974 + 20);
        Due.is("a waited one's", x.told(4, 1), 1083 - 1974 + 20 - 10);
    }

    private static void marginOfMachine() {
        Due.sentence("Terms 2", "MACHINE: as a LINED one's, but without LEANS, and 2 less.");
        ArmpitLine x = mixed();
        Due.is("a machine's", x.told(5, 1), 1033 - 1986 - 2);
        x.move(0, 1, -6);
        Due.is("by another speed", x.told(5, 1), 974 - 1986 - 2);
    }

    private static void ahead() {
        Due.sentence("Terms 2", "AHEAD: MARGIN above BAND");
        int width = 6;
        int[] level = {0, 0, 1, 1 + width, 13, 3};
        for (int kind = 0; kind < KINDS; kind++) {
            for (int more = -1; more <= 1; more++) {
                ArmpitLine x = pair(level[kind] + more);
                x.width(width);
                oneOfEachKind(x, 0, 0);
                Due.is("kind " + kind + ", margin less band", x.told(kind, 1) - x.told(kind, 2), more);
                Due.is("kind " + kind + ", beyond its band by " + more, x.told(kind, 3), more > 0 ? 1 : 0);
            }
        }
    }

    private static void bands() {
        ArmpitLine x = pair(0);
        oneOfEachKind(x, 0, 0);
        x.width(6);
        Due.sentence("Terms 2", "BAND: CALL 0");
        Due.is("of a call", x.told(0, 2), 0);
        Due.sentence("Terms 2", "FLAGGED as a CALL");
        Due.is("of a flagged one", x.told(1, 2), 0);
        Due.sentence("Terms 2", "LINED: 1 more than a CALL's");
        Due.is("of a lined one", x.told(2, 2), 1);
        Due.sentence("Terms 2", "WAITED: 3 more than a FLAGGED one's");
        Due.is("of a waited one", x.told(4, 2), 3);
        Due.sentence("Terms 2", "MACHINE as a LINED one.");
        Due.is("of a machine", x.told(5, 2), 1);
    }

    private static void bandOfNear() {
        Due.sentence("Terms 2", "NEAR: a LINED one's and what near says of the first MAN in that TICK");
        ArmpitLine x = pair(0);
        x.camera(20, 19, 0);
        x.call(3, 0, 1, 2, 10);
        Due.is("width 0", x.told(0, 2), 1);
        x.width(999);
        Due.is("width 999", x.told(0, 2), 1000);
        Due.rule(x, "count 1; near tick; play 1;");
        Due.is("in the tick, not in the frame", x.told(0, 2), 3);
        x.move(0, 1, 4);
        x.move(1, 1, 5);
        Due.rule(x, "count 1; near speed * 10 + team; play 1;");
        Due.is("of the first man, not of the other one", x.told(0, 2), 41);
        Due.rule(x, "count part = 1 and tick = 2 or part = 2 and tick = 19; near part; play 1;");
        Due.is("of the part that is foremost in the tick", x.told(0, 2), 2);
    }

    private static void offside() {
        Due.sentence("Terms 2", "OFFSIDE: AHEAD, and the first MAN is in play (play isn't 0 of him in that TICK).");
        ArmpitLine x = pair(0);
        x.camera(20, 19, 0);
        x.call(0, 0, 1, 2, 10);
        Due.is("level", x.told(0, 4), 0);
        x.move(0, 0, 501);
        Due.is("a hair ahead", x.told(0, 4), 1);
        String[] plays = {"0", "1", "-1", "tick = 2", "tick = 19", "team = 0", "team = 1", "part = 0", "part = 3"};
        int[] due = {0, 1, 1, 1, 0, 1, 0, 1, 0};
        for (int k = 0; k < plays.length; k++) {
            ArmpitLine y = pair(1);
            y.camera(20, 19, 0);
            y.call(0, 0, 1, 2, 10);
            Due.rule(y, "count 1; near 0; play " + plays[k] + ";");
            Due.is("ahead", y.told(0, 3), 1);
            Due.is("offside, play " + plays[k], y.told(0, 4), due[k]);
            y.move(0, 0, 500);
            Due.is("not ahead, play " + plays[k], y.told(0, 4), 0);
        }
    }

    private static void wrong() {
        Due.sentence("Terms 2", "WRONG: OFFSIDE isn't what a CALL of the same MEN and TICK would be.");
        ArmpitLine x = pair(1);
        oneOfEachKind(x, 0, 0);
        long[] byOne = {0, 0, 1, 1, 1, 1};
        for (int kind = 0; kind < KINDS; kind++) {
            Due.is("a hair ahead: a wrong goal, kind " + kind, x.told(kind, 5), byOne[kind]);
        }
        x.move(0, 0, 500);
        for (int kind = 0; kind < KINDS; kind++) {
            Due.is("level, kind " + kind, x.told(kind, 5), 0);
        }
        x.move(0, 1, 1);
        Due.is("level, but fast: a wrong none", x.told(1, 5), 1);
        x.move(0, 0, 501);
        Due.is("a hair ahead and fast", x.told(1, 5), 0);
        x.move(0, 1, 0);
        x.move(0, 0, 502);
        Due.is("two hairs ahead, lined", x.told(2, 5), 0);
        x.move(0, 0, 501);
        Due.rule(x, "count 1; near 0; play 0;");
        Due.is("ahead by the eye alone, but not in play", x.told(2, 5), 0);
    }

    private static void ways() {
        Due.sentence("Terms 2", "WAYS of a LINED CALL (or one under it): of all pairs of crosses (each FRONT as it is"
                + " seen, its LEAN as above, -SPREAD .. SPREAD each;");
        ArmpitLine x = pair(0);
        x.crosser(5, 1);
        x.call(2, 0, 1, 0, 1);
        x.call(3, 0, 1, 0, 1);
        x.width(1);
        Due.is("pairs", x.told(0, 7), 9);
        Due.is("pairs of a near one", x.told(1, 7), 9);
        int[] apart = {-2, -1, 0, 1, 2, 3, 4};
        int[] lined = {0, 0, 1, 3, 6, 8, 9};
        int[] near = {0, 0, 0, 1, 3, 6, 8};
        for (int k = 0; k < apart.length; k++) {
            x.move(0, 0, 500 + apart[k]);
            Due.is("lined, " + apart[k] + " apart", x.told(0, 6), lined[k]);
            Due.is("near, " + apart[k] + " apart", x.told(1, 6), near[k]);
        }
        x.move(0, 0, 490);
        x.move(0, 1, 1);
        Due.is("10 behind, with a lean of 5 against one of -5", x.told(0, 6), 1);
    }

    private static void waysOfMachinesAndOthers() {
        Due.sentence("Terms 2", "MACHINES have none: one pair) in how many it is AHEAD");
        ArmpitLine x = pair(4);
        x.crosser(0, 9);
        oneOfEachKind(x, 0, 1);
        Due.is("pairs of a machine", x.told(5, 7), 1);
        Due.is("ahead in one", x.told(5, 6), 1);
        x.move(0, 0, 503);
        Due.is("ahead in none", x.told(5, 6), 0);
        Due.sentence("Terms 2", "of others one pair.");
        int[] level = {500, 500, 0, 0, 513};
        for (int kind : new int[] {0, 1, 4}) {
            x.move(0, 0, level[kind]);
            Due.is("pairs of kind " + kind, x.told(kind, 7), 1);
            Due.is("ahead in none, kind " + kind, x.told(kind, 6), 0);
            x.move(0, 0, level[kind] + 1);
            Due.is("ahead in one, kind " + kind, x.told(kind, 6), 1);
        }
        Due.is("pairs of a lined one", x.told(2, 7), 361);
    }

    private static void frameError() {
        Due.sentence("Terms 2", "FRAME ERROR: by how much MARGIN as both truly were in FRAME is more than in the TICK itself.");
        ArmpitLine x = pair(0);
        x.move(0, 1, 3);
        x.move(1, 1, 1);
        x.camera(10, 10, 9);
        x.crosser(20, 9);
        int[] ticks = {0, 9, 10, 11, 19, 20};
        int[] due = {20, 2, 0, -2, -18, 0};
        for (int k = 0; k < ticks.length; k++) {
            x.call(2, 0, 1, ticks[k], 11);
            Due.is("tick " + ticks[k], x.told(k, 8), due[k]);
        }
        ArmpitLine y = pair(0);
        y.move(0, 1, 3);
        y.camera(20, 5, 0);
        oneOfEachKind(y, 4, 10);
        for (int kind = 0; kind < KINDS; kind++) {
            Due.is("kind " + kind, y.told(kind, 8), 3);
        }
        y.part(0, 2, 50);
        Due.rule(y, "count tick = 5; near 0; play 1;");
        Due.is("by parts that count in the frame alone", y.told(2, 8), 53);
    }

    private static void turns() {
        Due.sentence("Terms 2", "TURNS: the least number (0 .. 999) such that a CALL isn't AHEAD if that were WIDTH; NONE.");
        ArmpitLine x = pair(1);
        x.call(3, 0, 1, 0, 0);
        Due.is("by 0", x.told(0, 9), 0);
        x.move(0, 0, 502);
        Due.is("by 1", x.told(0, 9), 1);
        x.move(0, 0, 503);
        Due.is("by 2", x.told(0, 9), 2);
        x.move(0, 0, 1499);
        Due.is("by 998", x.told(0, 9), 998);
        x.move(0, 0, 1500);
        Due.is("by 999", x.told(0, 9), 999);
        x.move(0, 0, 1501);
        Due.is("by none", x.told(0, 9), NONE);
        x.width(77);
        Due.is("whatever the width is", x.told(0, 9), NONE);
        Due.is("the width stays", x.count(9), 77);
        Due.is("the band stays", x.told(0, 2), 78);
        x.move(0, 0, 1400);
        Due.is("by 899", x.told(0, 9), 899);
        Due.is("offside by the width, still 77", x.offside(), 1);
    }

    private static void turnsLeast() {
        Due.sentence("Terms 2", "TURNS: the least number (0 .. 999) such that a CALL isn't AHEAD");
        ArmpitLine x = pair(5);
        oneOfEachKind(x, 0, 0);
        long[] due = {NONE, NONE, NONE, 4, 0, NONE};
        for (int kind = 0; kind < KINDS; kind++) {
            Due.is("kind " + kind, x.told(kind, 9), due[kind]);
        }
        Due.rule(x, "count 1; near 30 * (300 < width) * (width < 302); play 0;");
        Due.is("the one width that turns it, and play has no say", x.told(3, 9), 301);
        Due.rule(x, "count part = 2 and width = 999; near 0; play 1;");
        x.part(0, 2, -5);
        for (int kind = 0; kind < 3; kind++) {
            Due.is("parts count by the last width, kind " + kind, x.told(kind, 9), 999);
        }
        x.part(0, 2, -3);
        Due.is("not for a margin of 2", x.told(0, 9), NONE);
        Due.rule(x, "count width; near width; play 1;");
        x.move(0, 0, 495);
        x.part(0, 1, 12);
        Due.is("not by 0, as no part counts", x.told(3, 9), 0);
        x.move(0, 0, 502);
        Due.is("ahead by 2 by width 0, then by 14", x.told(3, 9), 13);
        x.part(0, 1, 0);
        Due.rule(x, "count part = 2 and 40 < width or part = 1 and width < 41; near width; play 1;");
        x.move(0, 0, 510);
        Due.is("near turns it ahead of the parts", x.told(3, 9), 9);
        Due.rule(x, "count part = 2 and not width = 7 or part = 3; near part * 100; play 1;");
        x.part(0, 2, 1);
        Due.is("near of the part that is foremost by that width", x.told(3, 9), 0);
        x.move(0, 0, 710);
        Due.is("the foot is foremost by 7 alone", x.told(3, 9), 7);
    }

    private static void call() {
        Due.sentence("Promise 15", "A CALL (camera and crosser as 10 times CAMERA and CROSSER): its number.");
        ArmpitLine x = pair(0);
        x.move(0, 1, 1);
        for (int c = 1; c < 4; c++) {
            x.camera(20, 10 + c, 0);
        }
        for (int c = 1; c < 6; c++) {
            x.crosser(0, c);
        }
        int number = 0;
        for (int camera = 0; camera < 4; camera++) {
            for (int crosser = 0; crosser < 6; crosser++) {
                Due.is("call by both", x.call(2, 0, 1, 5, 10 * camera + crosser), number);
                Due.is("frame error by camera " + camera, x.told(number, 8), camera == 0 ? 0 : 5 + camera);
                Due.is("pairs by crosser " + crosser, x.told(number, 7), (2 * crosser + 1) * (2 * crosser + 1));
                number++;
            }
        }
    }

    private static void callBad() {
        Due.sentence("Promise 15", "BAD");
        ArmpitLine none = new ArmpitLine();
        none.man(0, 0, 0);
        none.man(0, 0, 0);
        Due.is("without a camera", none.call(0, 0, 1, 0, 0), BAD);
        none.camera(1, 0, 0);
        Due.is("without a crosser", none.call(0, 0, 1, 0, 0), BAD);
        none.crosser(0, 0);
        Due.is("with both", none.call(0, 0, 1, 0, 0), 0);
        ArmpitLine x = pair(0);
        x.camera(1, 0, 0);
        x.crosser(0, 0);
        int[][] bad = {{-1, 0, 1, 0, 0}, {6, 0, 1, 0, 0}, {0, -1, 1, 0, 0}, {0, 2, 1, 0, 0}, {0, 0, -1, 0, 0},
            {0, 0, 2, 0, 0}, {0, 0, 0, 0, 0}, {0, 1, 1, 0, 0}, {0, 0, 1, -1, 0}, {0, 0, 1, 201, 0}, {0, 0, 1, 0, -1},
            {0, 0, 1, 0, 2}, {0, 0, 1, 0, 9}, {0, 0, 1, 0, 12}, {0, 0, 1, 0, 20}, {0, 0, 1, 0, -10}, {0, 0, 1, 0, -11},
            {0, 0, 1, 0, MOST}, {0, 0, 1, 0, LEAST}, {LEAST, LEAST, MOST, LEAST, LEAST}};
        for (int[] b : bad) {
            String as = "call(" + b[0] + ", " + b[1] + ", " + b[2] + ", " + b[3] + ", " + b[4] + ")";
            Due.is(as, x.call(b[0], b[1], b[2], b[3], b[4]), BAD);
        }
        Due.is("none of them came", x.count(3), 0);
        Due.is("the least of all", x.call(0, 0, 1, 0, 0), 0);
        Due.is("the most of all", x.call(5, 1, 0, 200, 11), 1);
    }

    private static void callFull() {
        Due.sentence("Promise 15", "FULL");
        ArmpitLine x = pair(0);
        for (int c = 0; c < 23; c++) {
            x.call(0, 0, 1, 0, 0);
        }
        Due.is("the 24th", x.call(0, 0, 1, 0, 0), 23);
        Due.is("the 25th", x.call(0, 0, 1, 0, 0), FULL);
        Due.is("24 are there", x.count(3), 24);
    }

    private static void told() {
        Due.sentence("Promise 16", "Of a CALL: 0 KIND, 1 MARGIN, 2 BAND, 3 AHEAD (1, 0), 4 OFFSIDE, 5 WRONG, 6 WAYS,"
                + " 7 of how many pairs, 8 FRAME ERROR, 9 TURNS.");
        ArmpitLine x = pair(12);
        x.move(0, 1, 2);
        x.camera(20, 3, 0);
        x.crosser(1, 2);
        x.width(4);
        x.call(3, 0, 1, 8, 11);
        // in tick 8 he is 28 beyond; in frame 3 18, with the leans 20; width 19 is the first that does
        long[] due = {3, 20, 5, 1, 1, 0, 25, 25, -10, 19};
        for (int what = 0; what < due.length; what++) {
            Due.is("what " + what, x.told(0, what), due[what]);
        }
        x.move(0, 0, 490);
        // in tick 8 he is 6 beyond; in frame 3 4 behind, with the leans 2 behind
        long[] then = {3, -2, 5, 0, 0, 1, 0, 25, -10, 0};
        for (int what = 0; what < then.length; what++) {
            Due.is("what " + what + " then", x.told(0, what), then[what]);
        }
    }

    private static void toldNone() {
        Due.sentence("Promise 16", "NO: none such.");
        ArmpitLine x = pair(5);
        Due.is("no call 0 yet", x.told(0, 0), NO);
        x.call(0, 0, 1, 0, 0);
        x.call(1, 0, 1, 0, 0);
        Due.is("call -1", x.told(-1, 0), NO);
        Due.is("call 0", x.told(0, 0), 0);
        Due.is("call 1", x.told(1, 0), 1);
        Due.is("call 2 of two", x.told(2, 0), NO);
        Due.is("call 24", x.told(24, 0), NO);
        Due.is("what -1", x.told(0, -1), NO);
        Due.is("what 10", x.told(0, 10), NO);
        Due.is("what 9", x.told(0, 9), NONE);
        Due.is("the least of all", x.told(LEAST, LEAST), NO);
        Due.is("the most of all", x.told(MOST, MOST), NO);
    }

    private static void offsideBits() {
        Due.sentence("Promise 17", "CALLS (bits, of 24) that are OFFSIDE.");
        ArmpitLine x = pair(0);
        Due.is("no calls", x.offside(), 0);
        x.man(2, 501, 0);
        for (int c = 0; c < 24; c++) {
            boolean isAhead = c == 0 || c == 7 || c == 23;
            x.call(0, isAhead ? 2 : 0, 1, 0, 0);
        }
        Due.is("the first, the last and one between", x.offside(), 1 | 1 << 7 | 1 << 23);
        x.move(0, 0, 501);
        Due.is("all of them", x.offside(), (1 << 24) - 1);
        x.move(1, 0, 501);
        Due.is("none of them", x.offside(), 0);
    }
}
