/** The sentences on what is by widths, on the best one and on STAND: Terms 3, promises 18, 19 and 23. */
final class WidthSentences {
    private static final int LEAST = Integer.MIN_VALUE, MOST = Integer.MAX_VALUE;
    private static final int NONE = ArmpitLine.NONE, BAD = ArmpitLine.BAD;

    private WidthSentences() {
    }

    static void all() {
        toldWidths();
        asIfItWere();
        asIfAlone();
        toldCalls();
        wrongGoals();
        wrongNone();
        prices();
        costsLeast();
        wrong();
        wrongBad();
        wrongNothing();
        wrongSize();
        wrongNoSuch();
        best();
        bestRefused();
        standLess();
        standWidth();
        standThose();
        stand();
    }

    /**
     * Call 0: near, man 0 is 10 ahead: a wrong goal by the widths from 9 on. Call 1: near in frame 1,
     * where man 2 is ahead by 45, while he is behind in tick 0: a wrong none by the widths up to 43.
     */
    static ArmpitLine two() {
        ArmpitLine x = new ArmpitLine();
        x.man(0, 510, 0);
        x.man(1, 500, 0);
        x.man(2, 495, 50);
        x.camera(1, 0, 0);
        x.camera(20, 1, 0);
        x.crosser(0, 0);
        x.call(3, 0, 1, 0, 0);
        x.call(3, 2, 1, 0, 10);
        return x;
    }

    private static void toldWidths() {
        Due.sentence("Terms 3", "BY WIDTHS: of told WIDTHS (a SHEET, 1 to 8 of them;");
        ArmpitLine x = two();
        for (int size = 0; size <= 9; size++) {
            x.sheet(0, 2, size);
            boolean isFine = size >= 1 && size <= 8;
            Due.is("wrong() by " + size, x.wrong(0, 3, 0, 1), isFine ? 1 : BAD);
            Due.is("best() by " + size, x.best(0, 3, 101), isFine ? 0 : BAD);
            Due.is("season() by " + size, x.season(0), isFine ? 0 : BAD);
        }
        x.sheet(0, 2, 40);
        Due.is("wrong() by 40", x.wrong(0, 3, 0, 1), BAD);
    }

    private static void asIfItWere() {
        Due.sentence("Terms 3", "each as if it were WIDTH)");
        ArmpitLine x = two();
        x.width(500);
        Due.ints(x, 0, 0, 8, 9, 999);
        int[] goals = {0, 0, 1, 1};
        int[] none = {1, 1, 1, 0};
        for (int i = 0; i < 4; i++) {
            Due.is("wrong goals by width " + i, x.wrong(0, 3, i, 0), goals[i]);
            Due.is("wrong none by width " + i, x.wrong(0, 3, i, 1), none[i]);
        }
        Due.is("the width stays", x.count(9), 500);
        Due.rule(x, "count 1; near 0; play not width = 8;");
        Due.is("the call that it is measured by is taken by it, too", x.wrong(0, 3, 1, 0), 0);
        Due.rule(x, "count part = 0 or part = 1 and not width = 9; near 0; play 1;");
        x.part(0, 0, -20);
        Due.is("parts that count by it", x.wrong(0, 1, 2, 0), 0);
        Due.is("told now", x.told(0, 3), 1);
    }

    /** What is only as if, is over when the call has been answered. */
    private static void asIfAlone() {
        Due.sentence("Terms 3", "each as if it were WIDTH)");
        ArmpitLine x = two();
        x.match(1, 0, 3);
        Due.rule(x, "count width < 9 and part = 2; near width; play width < 9;");
        x.part(0, 2, 5);
        Due.ints(x, 0, 999);
        for (int what = 0; what < 5; what++) {
            askAsIf(x, what);
            Due.is("front after " + what, x.front(0, 0, 0), 515);
            askAsIf(x, what);
            Due.is("foremost after " + what, x.front(0, 0, 1), 2);
            askAsIf(x, what);
            Due.is("where he is after " + what, x.front(0, 0, 2), 510);
            askAsIf(x, what);
            Due.is("said after " + what, x.says(0, 0, 0, 1), 0);
            askAsIf(x, what);
            Due.is("margin after " + what, x.told(0, 1), 15);
            askAsIf(x, what);
            Due.is("offside after " + what, x.offside(), 3);
            askAsIf(x, what);
            Due.is("width after " + what, x.count(9), 0);
        }
    }

    private static void askAsIf(ArmpitLine x, int what) {
        if (what == 0) {
            Due.is("wrong", x.wrong(0, 1, 0, 0), 0);
        } else if (what == 1) {
            Due.is("best", x.best(0, 1, 101), 999);
        } else if (what == 2) {
            Due.is("table", x.table(999, 0, 1), 1);
        } else if (what == 3) {
            Due.is("season", x.season(0), 0);
        } else {
            Due.is("stand", x.stand(0, 999, 1), 0);
        }
    }

    private static void toldCalls() {
        Due.sentence("Terms 3", "and told CALLS (bits)");
        ArmpitLine x = two();
        Due.ints(x, 0, 20);
        int[] goals = {0, 1, 0, 1};
        int[] none = {0, 0, 1, 1};
        for (int bits = 0; bits < 4; bits++) {
            Due.is("wrong goals of calls " + bits, x.wrong(0, bits, 0, 0), goals[bits]);
            Due.is("wrong none of calls " + bits, x.wrong(0, bits, 0, 1), none[bits]);
        }
        Due.is("of calls 4: there are two", x.wrong(0, 4, 0, 0), BAD);
        for (int c = 2; c < 24; c++) {
            x.call(3, 0, 1, 0, 0);
        }
        Due.is("of all 24", x.wrong(0, (1 << 24) - 1, 0, 0), 23);
        Due.is("of the last one", x.wrong(0, 1 << 23, 0, 0), 1);
        Due.is("of a 25th", x.wrong(0, 1 << 24, 0, 0), BAD);
        Due.is("of bit 31", x.wrong(0, LEAST, 0, 0), BAD);
    }

    private static void wrongGoals() {
        Due.sentence("Terms 3", "wrong goals: CALLS that a CALL (KIND 0) would have OFFSIDE, and they aren't");
        ArmpitLine x = two();
        Due.ints(x, 0, 8, 9);
        Due.is("offside by 8, as it is due", x.wrong(0, 1, 0, 0), 0);
        Due.is("not by 9", x.wrong(0, 1, 1, 0), 1);
        x.move(0, 0, 500);
        Due.is("nor is a call", x.wrong(0, 1, 1, 0), 0);
        x.move(0, 0, 510);
        x.call(0, 0, 1, 0, 0);
        Due.is("a call of kind 0 is never wrong", x.wrong(0, 4, 1, 0), 0);
        Due.rule(x, "count 1; near width; play 0;");
        Due.is("ahead, but not in play", x.wrong(0, 1, 1, 0), 0);
    }

    private static void wrongNone() {
        Due.sentence("Terms 3", "wrong none: the other way round.");
        ArmpitLine x = two();
        Due.ints(x, 0, 43, 44);
        Due.is("offside by 43, though a call would not be", x.wrong(0, 2, 0, 1), 1);
        Due.is("not by 44", x.wrong(0, 2, 1, 1), 0);
        Due.is("no wrong goal", x.wrong(0, 2, 0, 0), 0);
        x.move(2, 0, 501);
        Due.is("so would a call be", x.wrong(0, 2, 0, 1), 0);
    }

    private static void prices() {
        Due.sentence("Terms 3", "BEST WIDTH by two PRICES (0 .. 99 for a wrong goal, for a wrong none)");
        ArmpitLine x = two();
        // 20 has a wrong goal and a wrong none; 8 a wrong none; 50 a wrong goal
        Due.ints(x, 0, 20, 8, 50);
        Due.is("0 and 0", x.best(0, 3, 0), 20);
        Due.is("1 and 0", x.best(0, 3, 100), 8);
        Due.is("0 and 1", x.best(0, 3, 1), 50);
        Due.is("99 and 98", x.best(0, 3, 9998), 8);
        Due.is("98 and 99", x.best(0, 3, 9899), 50);
        Due.is("99 and 99", x.best(0, 3, 9999), 8);
        Due.is("10000", x.best(0, 3, 10000), BAD);
        Due.is("-1", x.best(0, 3, -1), BAD);
        Due.is("-100", x.best(0, 3, -100), BAD);
        Due.is("the least int", x.best(0, 3, LEAST), BAD);
        Due.is("the greatest int", x.best(0, 3, MOST), BAD);
    }

    private static void costsLeast() {
        Due.sentence("Terms 3", "the one by which all together cost least; of like ones the first.");
        ArmpitLine x = two();
        x.call(3, 2, 1, 0, 10);
        // 8: two wrong nones; 50 and 60: one wrong goal; 20: all three
        Due.ints(x, 0, 20, 8, 60, 50);
        Due.is("two for 10 each, one for 19", x.best(0, 7, 1910), 60);
        Due.is("two for 10 each, one for 20: both are like, 8 stands first", x.best(0, 7, 2010), 8);
        Due.is("two for 10 each, one for 21", x.best(0, 7, 2110), 8);
        Due.ints(x, 0, 20, 50, 8);
        Due.is("50 stands first", x.best(0, 7, 2010), 50);
        Due.is("the last one costs least", x.best(0, 7, 2110), 8);
        Due.ints(x, 0, 7);
        Due.is("one alone", x.best(0, 7, 9999), 7);
    }

    private static void wrong() {
        Due.sentence("Promise 18", "BY WIDTHS (SHEET, CALLS): wrong goals (what 0), wrong none (1) by the i-th of the SHEET.");
        ArmpitLine x = two();
        Due.ints(x, 3, 999, 20, 0);
        int[][] due = {{1, 0}, {1, 1}, {0, 1}};
        for (int i = 0; i < 3; i++) {
            Due.is("wrong goals by " + i, x.wrong(3, 3, i, 0), due[i][0]);
            Due.is("wrong none by " + i, x.wrong(3, 3, i, 1), due[i][1]);
        }
        for (int sort = 0; sort < 3; sort++) {
            x.sheet(0, sort, 1);
            x.cell(0, 0, 127);
            Due.is("by a sheet of sort " + sort, x.wrong(0, 3, 0, 0), 1);
        }
    }

    private static void wrongBad() {
        Due.sentence("Promise 18", "BAD: SHEET, CALLS, what");
        ArmpitLine x = two();
        Due.ints(x, 0, 20);
        Due.ints(x, 3, 20);
        Due.is("sheet -1", x.wrong(-1, 3, 0, 0), BAD);
        Due.is("sheet 0", x.wrong(0, 3, 0, 0), 1);
        Due.is("sheet 3", x.wrong(3, 3, 0, 0), 1);
        Due.is("sheet 4", x.wrong(4, 3, 0, 0), BAD);
        Due.is("calls -1", x.wrong(0, -1, 0, 0), BAD);
        Due.is("calls 0", x.wrong(0, 0, 0, 0), 0);
        Due.is("calls 3", x.wrong(0, 3, 0, 0), 1);
        Due.is("calls 4", x.wrong(0, 4, 0, 0), BAD);
        Due.is("what -1", x.wrong(0, 3, 0, -1), BAD);
        Due.is("what 2", x.wrong(0, 3, 0, 2), BAD);
        Due.is("what 1", x.wrong(0, 3, 0, 1), 1);
        Due.is("the least of all", x.wrong(LEAST, LEAST, LEAST, LEAST), BAD);
    }

    private static void wrongNothing() {
        Due.sentence("Promise 18", "-11");
        ArmpitLine x = two();
        Due.is("missing at first", x.wrong(0, 3, 0, 0), -11);
        x.sheet(0, 0, 1);
        Due.is("not then", x.wrong(0, 3, 0, 0), 0);
        x.sheet(0, -1, 1);
        Due.is("missing again", x.wrong(0, 3, 0, 0), -11);
        Due.is("ahead of no such i", x.wrong(0, 3, -1, 0), -11);
        Due.is("behind BAD", x.wrong(0, 3, 0, 2), BAD);
    }

    private static void wrongSize() {
        Due.sentence("Promise 18", "BAD: its size (1 .. 8), a number is no WIDTH");
        ArmpitLine x = two();
        for (int size : new int[] {0, 1, 8, 9, 40}) {
            x.sheet(0, 1, size);
            Due.is("size " + size, x.wrong(0, 3, 0, 0), size == 1 || size == 8 ? 0 : BAD);
        }
        int[] numbers = {-1, 0, 999, 1000, LEAST, MOST};
        for (int v : numbers) {
            boolean isFine = v == 0 || v == 999;
            Due.ints(x, 0, v, 5, 5);
            Due.is("first " + v, x.wrong(0, 3, 1, 1), isFine ? 1 : BAD);
            Due.ints(x, 0, 5, 5, v);
            Due.is("last " + v, x.wrong(0, 3, 1, 1), isFine ? 1 : BAD);
        }
        x.sheet(0, 0, 1);
        x.cell(0, 0, 127);
        Due.is("127 as a byte", x.wrong(0, 3, 0, 0), 1);
        x.cell(0, 0, 128);
        Due.is("128 as a byte is below 0", x.wrong(0, 3, 0, 0), BAD);
        Due.is("ahead of no such i", x.wrong(0, 3, 1, 0), BAD);
    }

    private static void wrongNoSuch() {
        Due.sentence("Promise 18", "NONE: no such i.");
        ArmpitLine x = two();
        x.sheet(0, 2, 8);
        Due.is("i -1", x.wrong(0, 3, -1, 1), NONE);
        Due.is("i 0", x.wrong(0, 3, 0, 1), 1);
        Due.is("i 7 of eight", x.wrong(0, 3, 7, 1), 1);
        Due.is("i 8 of eight", x.wrong(0, 3, 8, 1), NONE);
        x.sheet(0, 2, 1);
        Due.is("i 1 of one", x.wrong(0, 3, 1, 1), NONE);
        Due.is("the least int", x.wrong(0, 3, LEAST, 1), NONE);
        Due.is("the greatest int", x.wrong(0, 3, MOST, 1), NONE);
    }

    private static void best() {
        Due.sentence("Promise 19", "BEST WIDTH, the number itself (goal and none as 100 times PRICE for a wrong goal and"
                + " that for a wrong none).");
        ArmpitLine x = two();
        Due.ints(x, 1, 999, 0);
        Due.is("a wrong goal costs", x.best(1, 3, 100), 0);
        Due.is("a wrong none costs", x.best(1, 3, 1), 999);
        Due.is("a wrong goal costs 1, a wrong none 2", x.best(1, 3, 102), 999);
        Due.is("a wrong goal costs 2, a wrong none 1", x.best(1, 3, 201), 0);
        Due.is("of no calls: the first", x.best(1, 0, 9999), 999);
        Due.is("the width stays", x.count(9), 0);
        Due.ints(x, 2, 999);
        Due.is("the one that is told, though 0 would cost less", x.best(2, 3, 100), 999);
    }

    private static void bestRefused() {
        Due.sentence("Promise 19", "BAD, -11 (as of wrong()).");
        ArmpitLine x = two();
        Due.is("missing", x.best(3, 3, 0), -11);
        Due.is("BAD ahead of -11: calls", x.best(3, 4, 0), BAD);
        Due.is("BAD ahead of -11: prices", x.best(3, 3, 10000), BAD);
        Due.is("sheet -1", x.best(-1, 3, 0), BAD);
        Due.is("sheet 4", x.best(4, 3, 0), BAD);
        Due.ints(x, 3, 5);
        Due.is("sheet 3", x.best(3, 3, 0), 5);
        Due.is("calls -1", x.best(3, -1, 0), BAD);
        Due.is("calls 0", x.best(3, 0, 0), 5);
        Due.is("calls 4", x.best(3, 4, 0), BAD);
        Due.is("prices -1", x.best(3, 3, -1), BAD);
        Due.is("prices 9999", x.best(3, 3, 9999), 5);
        Due.is("prices 10000", x.best(3, 3, 10000), BAD);
        int[] numbers = {-1, 0, 999, 1000};
        for (int v : numbers) {
            Due.ints(x, 3, v, 5);
            Due.is("first " + v, x.best(3, 0, 0), v == 0 || v == 999 ? v : BAD);
            Due.ints(x, 3, 5, v);
            Due.is("last " + v, x.best(3, 0, 0), v == 0 || v == 999 ? 5 : BAD);
        }
        for (int size : new int[] {0, 1, 8, 9}) {
            x.sheet(3, 2, size);
            Due.is("size " + size, x.best(3, 3, 0), size == 1 || size == 8 ? 0 : BAD);
        }
    }

    /** A call of kind 0 of man 0, side 2, who is so far ahead of man 1, side 3; WIDTH is 10. */
    private static ArmpitLine ahead(int hairs) {
        ArmpitLine x = new ArmpitLine();
        x.man(2, 500 + hairs, 0);
        x.man(3, 500, 0);
        x.camera(1, 0, 0);
        x.crosser(0, 0);
        x.call(0, 0, 1, 0, 0);
        x.width(10);
        return x;
    }

    private static void standLess() {
        Due.sentence("Terms 3", "STAND: as if the PLACE of each MAN of a SIDE were less by half (cut) of what a told WIDTH"
                + " is more than WIDTH");
        ArmpitLine x = ahead(1);
        int[] widths = {10, 11, 12, 9, 8, 0, 999};
        int[] due = {1, 1, 0, 1, 1, 1, 0};
        for (int k = 0; k < widths.length; k++) {
            Due.is("one ahead, width " + widths[k], x.stand(2, widths[k], 1), due[k]);
        }
        ArmpitLine y = ahead(3);
        Due.is("three ahead, half of 5", y.stand(2, 15, 1), 1);
        Due.is("three ahead, half of 6", y.stand(2, 16, 1), 0);
        ArmpitLine z = ahead(0);
        Due.is("level, half of -1", z.stand(2, 9, 1), 0);
        Due.is("level, half of -2", z.stand(2, 8, 1), 1);
        ArmpitLine w = ahead(-4);
        Due.is("four behind, half of -9", w.stand(2, 1, 1), 0);
        Due.is("four behind, half of -10", w.stand(2, 0, 1), 1);
        w.move(0, 0, 9999);
        w.move(1, 0, 9999);
        w.call(0, 1, 0, 0, 0);
        Due.is("beyond 9999", w.stand(3, 8, 2), 2);
        ArmpitLine v = ahead(1);
        v.move(1, 0, 2);
        v.move(0, 0, 3);
        v.man(2, 0, 0);
        v.call(0, 0, 2, 0, 0);
        Due.is("below 0, each man of the side, the one who defends, too", v.stand(2, 999, 3), 2);
    }

    private static void standWidth() {
        Due.sentence("Terms 3", "and that were WIDTH: those of told CALLS (bits)");
        ArmpitLine x = ahead(400);
        x.call(3, 0, 1, 0, 0);
        // he is 400 less half of what the width is more than 10; that is to be above 1 and the width
        Due.is("width 269: 400 - 129 is above 270", x.stand(2, 269, 2), 2);
        Due.is("width 270: 400 - 130 is not above 271", x.stand(2, 270, 2), 0);
        Due.is("both calls", x.stand(2, 269, 3), 3);
        Due.is("the first call alone", x.stand(2, 270, 3), 1);
        Due.is("no calls", x.stand(2, 269, 0), 0);
        Due.rule(x, "count 1; near 0; play width = 12;");
        Due.is("in play by 12", x.stand(2, 12, 1), 1);
        Due.is("not by 13", x.stand(2, 13, 1), 0);
        Due.is("nor as it is", x.told(0, 4), 0);
        Due.is("the width stays", x.count(9), 10);
        Due.is("the places stay", x.front(0, 0, 2), 900);
    }

    private static void standThose() {
        Due.sentence("Terms 3", "in which one of that SIDE attacks, and that are OFFSIDE then.");
        ArmpitLine x = ahead(50);
        x.man(2, 550, 0);
        x.call(0, 1, 0, 0, 0);
        x.call(0, 2, 1, 0, 0);
        x.call(0, 0, 2, 0, 0);
        Due.is("side 2 attacks in calls 0, 2 and 3; 3 is level", x.stand(2, 10, 15), 5);
        Due.is("side 3 attacks in call 1, and is behind", x.stand(3, 10, 15), 0);
        x.move(1, 0, 551);
        Due.is("it is a hair ahead", x.stand(3, 10, 15), 2);
        Due.is("by a width that is 2 more it is not", x.stand(3, 12, 15), 0);
        Due.is("side 2 is behind", x.stand(2, 10, 15), 0);
        Due.is("side 0 does not attack", x.stand(0, 10, 15), 0);
    }

    private static void stand() {
        Due.sentence("Promise 23", "STAND (bits).");
        ArmpitLine x = ahead(1);
        for (int c = 1; c < 24; c++) {
            x.call(0, c % 2 == 0 ? 0 : 1, c % 2 == 0 ? 1 : 0, 0, 0);
        }
        Due.is("each second one of 24", x.stand(2, 10, (1 << 24) - 1), 0x555555);
        Due.is("of the last ones", x.stand(2, 10, 3 << 22), 1 << 22);
        Due.sentence("Promise 23", "BAD: SIDE, WIDTH, CALLS.");
        Due.is("side -1", x.stand(-1, 10, 1), BAD);
        Due.is("side 0", x.stand(0, 10, 1), 0);
        Due.is("side 3", x.stand(3, 10, 1), 0);
        Due.is("side 4", x.stand(4, 10, 1), BAD);
        Due.is("width -1", x.stand(2, -1, 1), BAD);
        Due.is("width 0", x.stand(2, 0, 1), 1);
        Due.is("width 999", x.stand(2, 999, 1), 0);
        Due.is("width 1000", x.stand(2, 1000, 1), BAD);
        Due.is("calls -1", x.stand(2, 10, -1), BAD);
        Due.is("calls 0", x.stand(2, 10, 0), 0);
        Due.is("a 25th call", x.stand(2, 10, 1 << 24), BAD);
        ArmpitLine y = ahead(1);
        Due.is("the first call", y.stand(2, 10, 1), 1);
        Due.is("a second one of one", y.stand(2, 10, 2), BAD);
        Due.is("the least of all", y.stand(LEAST, LEAST, LEAST), BAD);
        Due.is("the most of all", y.stand(MOST, MOST, MOST), BAD);
    }
}
