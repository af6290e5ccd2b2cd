/** The sentences on matches, tables and seasons: Terms 3, promises 20 to 22. */
final class MatchSentences {
    private static final int LEAST = Integer.MIN_VALUE, MOST = Integer.MAX_VALUE;
    private static final int BAD = ArmpitLine.BAD, FULL = ArmpitLine.FULL;
    private static final int POINTS = 0, FOR = 1, AGAINST = 2, RANK = 3;

    private MatchSentences() {
    }

    static void all() {
        twelveMatches();
        twoSides();
        goalsAside();
        goalsByCalls();
        tableByWidth();
        points();
        goals();
        rankByPoints();
        rankByDifference();
        rankByGoals();
        neighbours();
        eachSidesRank();
        match();
        table();
        season();
    }

    /** Call 0: a man of side 0 is 10 ahead, till width 9 says that it was near. In calls 1 (side 1) and 2 (side 2) nobody is. */
    private static ArmpitLine near() {
        ArmpitLine x = new ArmpitLine();
        x.man(0, 510, 0);
        x.man(1, 500, 0);
        x.man(2, 500, 0);
        x.camera(1, 0, 0);
        x.crosser(0, 0);
        x.call(3, 0, 1, 0, 0);
        x.call(3, 1, 0, 0, 0);
        x.call(3, 2, 1, 0, 0);
        return x;
    }

    private static void twelveMatches() {
        Due.sentence("Terms 3", "MATCHES (12 at most, numbered from 0)");
        ArmpitLine x = new ArmpitLine();
        for (int m = 0; m < 12; m++) {
            Due.is("match " + m, x.match(1, 20, 0), m);
        }
        Due.is("the 13th", x.match(1, 20, 0), FULL);
        Due.is("all twelve are in the table", x.table(0, 0, POINTS), 36);
    }

    private static void twoSides() {
        Due.sentence("Terms 3", "two SIDES (unlike)");
        ArmpitLine x = new ArmpitLine();
        int number = 0;
        for (int sides = -1; sides <= 45; sides++) {
            int a = sides / 10;
            int b = sides % 10;
            boolean isFine = sides >= 0 && a < 4 && b < 4 && a != b;
            Due.is("sides " + sides, x.match(sides, 0, 0), isFine ? number++ : BAD);
        }
        Due.is("all pairs of four", number, 12);
    }

    private static void goalsAside() {
        Due.sentence("Terms 3", "GOALS of each aside from CALLS (0 .. 9)");
        ArmpitLine x = new ArmpitLine();
        Due.is("-1", x.match(1, -1, 0), BAD);
        Due.is("0 and 0", x.match(1, 0, 0), 0);
        Due.is("0 and 9", x.match(1, 9, 0), 1);
        Due.is("for side 0", x.table(0, 0, FOR), 0);
        Due.is("for side 1", x.table(0, 1, FOR), 9);
        Due.is("9 and 9", x.match(1, 99, 0), 2);
        Due.is("for side 0 then", x.table(0, 0, FOR), 9);
        Due.is("for side 1 then", x.table(0, 1, FOR), 18);
        Due.is("100", x.match(1, 100, 0), BAD);
        Due.is("the least int", x.match(1, LEAST, 0), BAD);
        Due.is("the greatest int", x.match(1, MOST, 0), BAD);
    }

    private static void goalsByCalls() {
        Due.sentence("Terms 3", "CALLS (bits) each of which is a goal for the first MAN's SIDE, if that is one of both and"
                + " the CALL isn't OFFSIDE.");
        ArmpitLine x = near();
        x.match(1, 0, 7);
        Due.is("by 8 he is offside: no goal", x.table(8, 0, FOR), 0);
        Due.is("by 9 he is not: a goal", x.table(9, 0, FOR), 1);
        Due.is("the other way round: a goal for side 1", x.table(8, 1, FOR), 1);
        Due.is("side 2 is none of both", x.table(9, 2, FOR), 0);
        x.match(21, 0, 4);
        Due.is("it is one of both: a goal", x.table(9, 2, FOR), 1);
        Due.is("side 1 has no more", x.table(9, 1, FOR), 1);
        x.match(10, 0, 2);
        Due.is("told calls alone", x.table(9, 0, FOR), 1);
        Due.is("side 1 has one more", x.table(9, 1, FOR), 2);
        x.match(1, 0, 0);
        Due.is("no calls, no goals", x.table(9, 0, FOR), 1);
        Due.is("calls 8: there are three", x.match(1, 0, 8), BAD);
        Due.rule(x, "count 1; near 0; play 0;");
        Due.is("nobody in play: goals by any width", x.table(0, 0, FOR), 1);
    }

    private static void tableByWidth() {
        Due.sentence("Terms 3", "A TABLE by a WIDTH (as if that were WIDTH)");
        ArmpitLine x = near();
        x.match(1, 0, 1);
        x.width(500);
        Due.is("width -1", x.table(-1, 0, FOR), BAD);
        Due.is("width 0", x.table(0, 0, FOR), 0);
        Due.is("width 8", x.table(8, 0, FOR), 0);
        Due.is("width 9", x.table(9, 0, FOR), 1);
        Due.is("width 999", x.table(999, 0, FOR), 1);
        Due.is("width 1000", x.table(1000, 0, FOR), BAD);
        Due.is("the width stays", x.count(9), 500);
    }

    private static void points() {
        Due.sentence("Terms 3", "of each SIDE POINTS (3 for more goals than the other one, 1 for as many)");
        int[] goals = {0, 1, 10, 11, 12, 21, 99, 98, 89};
        int[] mine = {1, 0, 3, 1, 0, 3, 1, 3, 0};
        int[] other = {1, 3, 0, 1, 3, 0, 1, 0, 3};
        for (int k = 0; k < goals.length; k++) {
            ArmpitLine x = new ArmpitLine();
            x.match(23, goals[k], 0);
            Due.is("of side 2 by " + goals[k], x.table(0, 2, POINTS), mine[k]);
            Due.is("of side 3 by " + goals[k], x.table(0, 3, POINTS), other[k]);
            Due.is("of a side that did not play", x.table(0, 0, POINTS), 0);
        }
        ArmpitLine x = near();
        x.match(1, 1, 1);
        Due.is("a goal behind", x.table(8, 0, POINTS), 0);
        Due.is("as many by a call", x.table(9, 0, POINTS), 1);
        x.match(1, 10, 1);
        Due.is("of both matches", x.table(9, 0, POINTS), 4);
        x.match(1, 44, 0);
        Due.is("of three, the last as many", x.table(9, 0, POINTS), 5);
        x.match(1, 45, 0);
        Due.is("of four, the last lost", x.table(9, 0, POINTS), 5);
    }

    private static void goals() {
        Due.sentence("Terms 3", "goals for it, goals against it.");
        ArmpitLine x = new ArmpitLine();
        x.match(1, 23, 0);
        Due.is("for side 0", x.table(0, 0, FOR), 2);
        Due.is("against side 0", x.table(0, 0, AGAINST), 3);
        Due.is("for side 1", x.table(0, 1, FOR), 3);
        Due.is("against side 1", x.table(0, 1, AGAINST), 2);
        x.match(20, 45, 0);
        Due.is("for side 0 of both", x.table(0, 0, FOR), 7);
        Due.is("against side 0 of both", x.table(0, 0, AGAINST), 7);
        Due.is("for side 3", x.table(0, 3, FOR), 0);
        Due.is("against side 3", x.table(0, 3, AGAINST), 0);
    }

    private static void ranks(ArmpitLine x, int... due) {
        for (int side = 0; side < 4; side++) {
            Due.is("rank of side " + side, x.table(0, side, RANK), due[side]);
        }
    }

    private static void rankByPoints() {
        Due.sentence("Terms 3", "RANK of a SIDE: how many SIDES have more POINTS");
        ArmpitLine x = new ArmpitLine();
        ranks(x, 0, 0, 0, 0);
        x.match(30, 10, 0);
        // 3: 3 points; 1 and 2: none, level; 0: none, a goal behind
        ranks(x, 3, 1, 1, 0);
        x.match(1, 0, 0);
        // 0: 1 point and a goal behind; 1: 1 point
        ranks(x, 2, 1, 3, 0);
        x.match(21, 91, 0);
        // 2: 3 points, eight ahead; 3: 3 points, one ahead
        ranks(x, 2, 3, 0, 1);
    }

    private static void rankByDifference() {
        Due.sentence("Terms 3", "or as many and a greater difference of goals");
        ArmpitLine x = new ArmpitLine();
        x.match(1, 97, 0);
        x.match(23, 30, 0);
        ranks(x, 1, 2, 0, 3);
        ArmpitLine y = new ArmpitLine();
        y.match(1, 30, 0);
        y.match(23, 30, 0);
        ranks(y, 0, 2, 0, 2);
    }

    private static void rankByGoals() {
        Due.sentence("Terms 3", "or both alike and more goals for.");
        ArmpitLine x = new ArmpitLine();
        x.match(1, 21, 0);
        x.match(23, 32, 0);
        ranks(x, 1, 3, 0, 2);
        ArmpitLine y = new ArmpitLine();
        y.match(1, 32, 0);
        y.match(23, 32, 0);
        ranks(y, 0, 2, 0, 2);
        ArmpitLine z = new ArmpitLine();
        z.match(1, 99, 0);
        z.match(23, 0, 0);
        ranks(z, 0, 0, 2, 2);
    }

    private static void neighbours() {
        Due.sentence("Terms 3", "SEASON by WIDTHS of a SHEET (1 to 8): in how many pairs of neighbours of the SHEET");
        ArmpitLine x = near();
        x.match(1, 0, 1);
        int[][] widths = {{0}, {8}, {8, 8}, {8, 9}, {9, 8}, {9, 999}, {0, 8, 9, 999}, {0, 9, 8}, {0, 9, 0, 9, 0, 9, 0, 9},
            {9, 9, 9, 9, 9, 9, 9, 0}, {0, 9, 9, 9, 9, 9, 9, 9}, {0, 9, 9, 0, 0, 9, 9, 0}};
        int[] due = {0, 0, 0, 1, 1, 0, 1, 2, 7, 1, 1, 4};
        for (int k = 0; k < widths.length; k++) {
            Due.ints(x, 0, widths[k]);
            Due.is("season of list " + k, x.season(0), due[k]);
        }
        x.sheet(0, 2, 0);
        Due.is("of no widths", x.season(0), BAD);
        x.sheet(0, 2, 9);
        Due.is("of nine widths", x.season(0), BAD);
    }

    private static void eachSidesRank() {
        Due.sentence("Terms 3", "some SIDE's RANK is another one.");
        ArmpitLine x = near();
        x.match(1, 50, 1);
        Due.ints(x, 0, 0, 9);
        Due.is("goals change, no rank does", x.season(0), 0);
        ArmpitLine y = near();
        y.match(1, 0, 1);
        y.match(23, 10, 0);
        y.match(32, 10, 0);
        Due.ints(y, 0, 0, 9);
        Due.is("all ranks change", y.season(0), 1);
        ArmpitLine z = near();
        z.call(3, 0, 1, 0, 0);
        z.match(1, 0, 11);
        Due.ints(z, 0, 8, 9);
        Due.is("rank 3 by width 8", z.table(8, 0, RANK), 3);
        Due.is("rank 0 by width 9", z.table(9, 0, RANK), 0);
        Due.is("two sides change their ranks with one another", z.season(0), 1);
        for (int side = 0; side < 4; side++) {
            Due.is("the rank of side " + side + " alone", seasonOfOne(side), 1);
        }
    }

    /** A side is level with the next one, till that one has a goal more; the others are far below. */
    private static int seasonOfOne(int side) {
        int next = (side + 1) % 4;
        int third = (side + 2) % 4;
        int last = (side + 3) % 4;
        ArmpitLine x = new ArmpitLine();
        x.man(next, 510, 0);
        x.man(last, 500, 0);
        x.camera(1, 0, 0);
        x.crosser(0, 0);
        x.call(3, 0, 1, 0, 0);
        x.match(side * 10 + third, 50, 0);
        x.match(next * 10 + last, 50, 1);
        x.match(last * 10 + third, 0, 0);
        x.match(last * 10 + third, 9, 0);
        Due.ints(x, 0, 0, 9);
        return x.season(0);
    }

    private static void match() {
        Due.sentence("Promise 20", "A MATCH (sides as 10 times one SIDE and the other, goals likewise): its number.");
        ArmpitLine x = near();
        Due.is("the first", x.match(31, 52, 0), 0);
        Due.is("the second", x.match(2, 7, 0), 1);
        int[] goals = {0, 2, 7, 5};
        for (int side = 0; side < 4; side++) {
            Due.is("for side " + side, x.table(0, side, FOR), goals[side]);
        }
        Due.is("against side 3", x.table(0, 3, AGAINST), 2);
        Due.is("against side 0", x.table(0, 0, AGAINST), 7);
        Due.sentence("Promise 20", "BAD");
        int[][] bad = {{-1, 0, 0}, {0, 0, 0}, {11, 0, 0}, {22, 0, 0}, {33, 0, 0}, {4, 0, 0}, {40, 0, 0}, {9, 0, 0}, {-10, 0, 0},
            {-12, 0, 0}, {1, -1, 0}, {1, 100, 0}, {1, 0, 8}, {1, 0, -1}, {MOST, 0, 0}, {LEAST, 0, 0}, {1, 0, LEAST}, {1, 0, MOST}};
        for (int[] b : bad) {
            Due.is("match(" + b[0] + ", " + b[1] + ", " + b[2] + ")", x.match(b[0], b[1], b[2]), BAD);
        }
        Due.is("none of them came", x.count(4), 2);
        Due.is("the least of all", x.match(1, 0, 0), 2);
        Due.is("the most of all", x.match(32, 99, 7), 3);
        Due.sentence("Promise 20", "FULL");
        for (int m = 4; m < 11; m++) {
            x.match(1, 0, 0);
        }
        Due.is("the twelfth", x.match(1, 0, 0), 11);
        Due.is("the 13th", x.match(1, 0, 0), FULL);
        Due.is("twelve are there", x.count(4), 12);
    }

    private static void table() {
        Due.sentence("Promise 21", "THE TABLE by a WIDTH: of a SIDE 0 POINTS, 1 goals for, 2 against it, 3 RANK.");
        ArmpitLine x = near();
        x.match(1, 42, 1);
        int[] by8 = {3, 4, 2, 0};
        int[] by9 = {3, 5, 2, 0};
        int[] other = {0, 2, 4, 3};
        for (int what = 0; what < 4; what++) {
            Due.is("side 0, width 8, what " + what, x.table(8, 0, what), by8[what]);
            Due.is("side 0, width 9, what " + what, x.table(9, 0, what), by9[what]);
            Due.is("side 1, width 8, what " + what, x.table(8, 1, what), other[what]);
        }
        Due.sentence("Promise 21", "BAD.");
        Due.is("width -1", x.table(-1, 0, 0), BAD);
        Due.is("width 1000", x.table(1000, 0, 0), BAD);
        Due.is("side -1", x.table(0, -1, 0), BAD);
        Due.is("side 4", x.table(0, 4, 0), BAD);
        Due.is("what -1", x.table(0, 0, -1), BAD);
        Due.is("what 4", x.table(0, 0, 4), BAD);
        Due.is("the least of all", x.table(LEAST, LEAST, LEAST), BAD);
        Due.is("the most of all", x.table(MOST, MOST, MOST), BAD);
        Due.is("width 0, side 0, what 0", x.table(0, 0, 0), 3);
        Due.is("width 999, side 3, what 3", x.table(999, 3, 3), 1);
    }

    private static void season() {
        Due.sentence("Promise 22", "SEASON.");
        ArmpitLine x = near();
        x.match(1, 0, 1);
        Due.ints(x, 3, 8, 9, 8);
        Due.is("of sheet 3", x.season(3), 2);
        Due.is("the width stays", x.count(9), 0);
        Due.sentence("Promise 22", "BAD, -11 (as of wrong()).");
        Due.is("sheet -1", x.season(-1), BAD);
        Due.is("sheet 4", x.season(4), BAD);
        Due.is("the least int", x.season(LEAST), BAD);
        Due.is("missing", x.season(0), -11);
        for (int size : new int[] {0, 1, 8, 9}) {
            x.sheet(0, 2, size);
            Due.is("size " + size, x.season(0), size == 1 || size == 8 ? 0 : BAD);
        }
        for (int v : new int[] {-1, 0, 999, 1000}) {
            Due.ints(x, 0, v, v);
            Due.is("number " + v, x.season(0), v == 0 || v == 999 ? 0 : BAD);
            Due.ints(x, 0, 5, v);
            Due.is("last number " + v, x.season(0), v == 0 ? 0 : v == 999 ? 1 : BAD);
        }
        x.sheet(0, -1, 0);
        Due.is("missing again", x.season(0), -11);
    }
}
