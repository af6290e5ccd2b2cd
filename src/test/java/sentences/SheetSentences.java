/** The sentences on sheets and on what the host asks: Terms 1 and 4, promises 29 to 33. */
final class SheetSentences {
    private static final int LEAST = Integer.MIN_VALUE, MOST = Integer.MAX_VALUE;
    private static final int BAD = ArmpitLine.BAD;
    private static final int NOTHING = -11, OUTSIDE = -12, OTHER_SORT = -13, BELOW_ZERO = -14;

    private SheetSentences() {
    }

    static void all() {
        fourSheets();
        sorts();
        hostsNumbers();
        sheet();
        sheetBad();
        sheetBelowZero();
        cell();
        cellBytes();
        cellRefused();
        copy();
        copyAsTheyWere();
        copyRefused();
        copyOutside();
        men();
        menBad();
        menOtherSort();
        menOutside();
        taken();
        takenRefused();
    }

    /** What item i of a sheet is, by a man who comes with it as his place: his place, or BAD, if he is left out. */
    private static int place(ArmpitLine x, int sheet, int sort, int i) {
        int before = x.count(0);
        int came = x.men(sheet, sort, i - 1, 1);
        return came == 1 ? (int) x.front(before, 0, 2) : came == 0 ? BAD : came;
    }

    private static void fourSheets() {
        Due.sentence("Terms 4", "SHEETS 0 .. 3 are rows of numbers, or missing (as all are at first)");
        ArmpitLine x = new ArmpitLine();
        for (int s = 0; s < 4; s++) {
            Due.is("sheet " + s + " is missing", x.cell(s, 0, 0), NOTHING);
        }
        Due.is("sheet -1", x.sheet(-1, 0, 1), BAD);
        Due.is("sheet 4", x.sheet(4, 0, 1), BAD);
        for (int s = 0; s < 4; s++) {
            Due.is("sheet " + s, x.sheet(s, 0, s + 1), 1);
            Due.is("its last item", x.cell(s, s, 0), 1);
            Due.is("no item more", x.cell(s, s + 1, 0), OUTSIDE);
        }
    }

    private static void sorts() {
        Due.sentence("Terms 4", "of sort 0 bytes, 1 shorts, 2 ints.");
        int[] most = {127, 9999, 9999};
        int[] wrapped = {BAD, 9999, 9999};
        for (int sort = 0; sort < 3; sort++) {
            ArmpitLine x = new ArmpitLine();
            x.sheet(0, sort, 3);
            x.cell(0, 1, most[sort]);
            Due.is("the most of sort " + sort, place(x, 0, sort, 1), most[sort]);
            x.cell(0, 1, sort == 0 ? 128 : 9999);
            Due.is("one more of sort " + sort, place(x, 0, sort, 1), wrapped[sort]);
            x.cell(0, 1, 65536 + 7);
            Due.is("65543 of sort " + sort, place(x, 0, sort, 1), sort == 2 ? BAD : 7);
            x.cell(0, 1, 256 + 7);
            Due.is("263 of sort " + sort, place(x, 0, sort, 1), sort == 0 ? 7 : 263);
        }
    }

    private static void hostsNumbers() {
        ArmpitLine x = new ArmpitLine();
        Due.sentence("Terms 1", "the host's: -11 nothing where something is asked");
        Due.is("an item of a sheet that is missing", x.cell(0, 0, 0), -11);
        Due.is("a call that is none", x.taken(0, 0), -11);
        Due.sentence("Terms 1", "-12 a place outside");
        x.sheet(0, 1, 2);
        Due.is("item 2 of two", x.cell(0, 2, 0), -12);
        Due.is("item 1 of two", x.cell(0, 1, 0), 1);
        Due.sentence("Terms 1", "-13 a thing of another sort or KIND");
        x.sheet(1, 2, 2);
        Due.is("ints to shorts", x.copy(1, 0, 0, 0, 1), -13);
        Due.is("men by shorts as bytes", x.men(0, 0, 0, 0), -13);
        Due.sentence("Terms 1", "-14 a size below 0.");
        Due.is("size -1", x.sheet(0, 1, -1), -14);
        Due.is("size 0", x.sheet(0, 1, 0), 1);
    }

    private static void sheet() {
        Due.sentence("Promise 29", "A SHEET becomes a row of n of a sort, all 0, or missing (sort -1: n does not matter): 1.");
        ArmpitLine x = new ArmpitLine();
        Due.is("of none", x.sheet(2, 1, 0), 1);
        Due.is("no item", x.cell(2, 0, 0), OUTSIDE);
        Due.is("of 40", x.sheet(2, 1, 40), 1);
        Due.is("item 39", x.cell(2, 39, 55), 1);
        Due.is("item 40", x.cell(2, 40, 55), OUTSIDE);
        x.cell(2, 0, 4);
        Due.is("a row again", x.sheet(2, 1, 40), 1);
        for (int from = 0; from < 39; from += 13) {
            Due.is("all 0: man from " + from, x.men(2, 1, from, 1), 1);
            Due.is("at 0", x.front(x.count(0) - 1, 1, 2), 0);
        }
        Due.is("the last one is 0, too", place(x, 2, 1, 38), 0);
        Due.is("a shorter row", x.sheet(2, 2, 3), 1);
        Due.is("item 3", x.cell(2, 3, 0), OUTSIDE);
        for (int n : new int[] {0, 41, -1, LEAST, MOST}) {
            x.sheet(2, 0, 1);
            Due.is("missing, n " + n, x.sheet(2, -1, n), 1);
            Due.is("it is", x.cell(2, 0, 0), NOTHING);
        }
        Due.is("others are as they were", x.cell(1, 0, 0), NOTHING);
    }

    private static void sheetBad() {
        Due.sentence("Promise 29", "BAD: no such SHEET, sort");
        ArmpitLine x = new ArmpitLine();
        Due.is("sheet -1", x.sheet(-1, 0, 0), BAD);
        Due.is("sheet 0", x.sheet(0, 0, 0), 1);
        Due.is("sheet 3", x.sheet(3, 0, 0), 1);
        Due.is("sheet 4", x.sheet(4, 0, 0), BAD);
        Due.is("sheet 4, missing", x.sheet(4, -1, 0), BAD);
        Due.is("sort -2", x.sheet(0, -2, 0), BAD);
        Due.is("sort -1", x.sheet(0, -1, 0), 1);
        Due.is("sort 2", x.sheet(0, 2, 0), 1);
        Due.is("sort 3", x.sheet(0, 3, 0), BAD);
        Due.is("the least of all", x.sheet(LEAST, LEAST, LEAST), BAD);
        Due.is("the most of all", x.sheet(MOST, MOST, MOST), BAD);
        Due.sentence("Promise 29", "n above 40");
        Due.is("n 40", x.sheet(0, 2, 40), 1);
        Due.is("n 41", x.sheet(0, 2, 41), BAD);
        Due.is("the greatest int", x.sheet(0, 2, MOST), BAD);
        Due.is("the row stays", x.cell(0, 39, 0), 1);
    }

    private static void sheetBelowZero() {
        Due.sentence("Promise 29", "-14.");
        ArmpitLine x = new ArmpitLine();
        Due.is("n 0", x.sheet(0, 2, 0), 1);
        Due.is("n -1", x.sheet(0, 2, -1), BELOW_ZERO);
        Due.is("the least int", x.sheet(0, 0, LEAST), BELOW_ZERO);
        Due.is("behind BAD: sort 3", x.sheet(0, 3, -1), BAD);
        Due.is("behind BAD: sheet 4", x.sheet(4, 2, -1), BAD);
    }

    private static void cell() {
        Due.sentence("Promise 30", "Item i of a SHEET becomes v");
        ArmpitLine x = new ArmpitLine();
        x.sheet(0, 2, 40);
        x.sheet(1, 2, 3);
        Due.is("the first", x.cell(1, 0, 3), 1);
        Due.is("the second", x.cell(1, 1, 4444), 1);
        Due.is("the third", x.cell(1, 2, -55), 1);
        Due.is("a man of them", x.men(1, 2, 0, 1), 1);
        Due.is("his place and speed", x.front(0, 2, 2), 4334);
        Due.is("no other sheet has them", place(x, 0, 2, 1), 0);
        Due.is("nor its end", place(x, 0, 2, 38), 0);
    }

    private static void cellBytes() {
        Due.sentence("Promise 30", "(of bytes, shorts its lowest 8, 16 bits): 1.");
        int[] told = {127, 128, 255, 256, 257, -1, -128, -129, -256, 65535, 65536 + 100, LEAST, MOST, 32767, 32768, -32769};
        for (int sort = 0; sort < 3; sort++) {
            for (int v : told) {
                ArmpitLine x = new ArmpitLine();
                x.sheet(0, sort, 3);
                Due.is("it becomes " + v, x.cell(0, 1, v), 1);
                int kept = sort == 0 ? (byte) v : sort == 1 ? (short) v : v;
                Due.is(v + " in sort " + sort, place(x, 0, sort, 1), kept < 0 || kept > 9999 ? BAD : kept);
                x.cell(0, 1, 0);
                x.cell(0, 2, v);
                Due.is(v + " as a speed in sort " + sort, x.men(0, sort, 0, 1), kept < -99 || kept > 99 ? 0 : 1);
            }
        }
    }

    private static void cellRefused() {
        ArmpitLine x = new ArmpitLine();
        Due.sentence("Promise 30", "BAD: no such SHEET");
        x.sheet(0, 0, 3);
        x.sheet(3, 0, 3);
        Due.is("sheet -1", x.cell(-1, 0, 0), BAD);
        Due.is("sheet 0", x.cell(0, 0, 0), 1);
        Due.is("sheet 3", x.cell(3, 0, 0), 1);
        Due.is("sheet 4", x.cell(4, 0, 0), BAD);
        Due.is("the least of all", x.cell(LEAST, LEAST, LEAST), BAD);
        Due.sentence("Promise 30", "-11");
        Due.is("missing", x.cell(1, 0, 0), NOTHING);
        Due.is("missing, ahead of a place outside", x.cell(1, -1, 0), NOTHING);
        x.sheet(1, 0, 1);
        Due.is("a row", x.cell(1, 0, 0), 1);
        Due.sentence("Promise 30", "-12.");
        Due.is("i -1", x.cell(0, -1, 0), OUTSIDE);
        Due.is("i 0", x.cell(0, 0, 0), 1);
        Due.is("i 2 of three", x.cell(0, 2, 0), 1);
        Due.is("i 3 of three", x.cell(0, 3, 0), OUTSIDE);
        Due.is("the least int", x.cell(0, LEAST, 0), OUTSIDE);
        Due.is("the greatest int", x.cell(0, MOST, 0), OUTSIDE);
    }

    /** A sheet of ints 1, 2, .. so many. */
    private static void rising(ArmpitLine x, int sheet, int n) {
        x.sheet(sheet, 2, n);
        for (int i = 0; i < n; i++) {
            x.cell(sheet, i, i + 1);
        }
    }

    private static void copy() {
        Due.sentence("Promise 31", "n numbers of a SHEET, from item i on, come to another one's item j on");
        ArmpitLine x = new ArmpitLine();
        rising(x, 0, 8);
        x.sheet(3, 2, 8);
        Due.is("two of them", x.copy(0, 3, 3, 1, 2), 2);
        Due.is("0 4 5 0 0: what stands ahead stays", place(x, 3, 2, 1), 4);
        Due.is("the speed is the second", x.move(0, 1, 0), 5);
        x.cell(3, 2, 0);
        Due.is("what stands behind stays", place(x, 3, 2, 3), 0);
        Due.is("the first sheet stays", place(x, 0, 2, 1), 2);
        Due.is("none", x.copy(0, 0, 3, 0, 0), 0);
        Due.is("all", x.copy(0, 0, 3, 0, 8), 8);
        Due.is("1 2 3", place(x, 3, 2, 1), 2);
    }

    private static void copyAsTheyWere() {
        Due.sentence("Promise 31", "(as they were): n.");
        ArmpitLine x = new ArmpitLine();
        rising(x, 0, 8);
        Due.is("to its own end", x.copy(0, 0, 0, 1, 7), 7);
        // 1 1 2 3 4 5 6 7
        for (int i = 2; i < 5; i++) {
            x.cell(0, i - 1, 0);
            Due.is("item " + i, place(x, 0, 2, i), i);
        }
        rising(x, 1, 8);
        Due.is("to its own start", x.copy(1, 1, 1, 0, 7), 7);
        // 2 3 4 5 6 7 8 8
        for (int i = 1; i < 4; i++) {
            x.cell(1, i - 1, 0);
            Due.is("item " + i, place(x, 1, 2, i), i + 2);
        }
        Due.is("onto itself", x.copy(1, 4, 1, 4, 4), 4);
        x.cell(1, 4, 0);
        Due.is("item 5", place(x, 1, 2, 5), 7);
    }

    private static void copyRefused() {
        ArmpitLine x = new ArmpitLine();
        x.sheet(0, 2, 5);
        x.sheet(3, 2, 3);
        Due.sentence("Promise 31", "BAD: no such SHEET");
        Due.is("sheet -1", x.copy(-1, 0, 0, 0, 0), BAD);
        Due.is("sheet 4", x.copy(4, 0, 0, 0, 0), BAD);
        Due.is("other -1", x.copy(0, 0, -1, 0, 0), BAD);
        Due.is("other 4", x.copy(0, 0, 4, 0, 0), BAD);
        Due.is("sheets 0 and 3", x.copy(0, 0, 3, 0, 3), 3);
        Due.is("sheets 3 and 0", x.copy(3, 0, 0, 0, 3), 3);
        Due.is("ahead of -11", x.copy(1, 0, 4, 0, 0), BAD);
        Due.is("the least of all", x.copy(LEAST, LEAST, LEAST, LEAST, LEAST), BAD);
        Due.sentence("Promise 31", "-11");
        Due.is("the first is missing", x.copy(1, 0, 0, 0, 1), NOTHING);
        Due.is("the other one is missing", x.copy(0, 0, 1, 0, 1), NOTHING);
        Due.is("both are", x.copy(1, 0, 1, 0, 0), NOTHING);
        Due.is("ahead of -12", x.copy(0, -1, 1, -1, -1), NOTHING);
        Due.sentence("Promise 31", "-13: they are of unlike sorts");
        x.sheet(1, 1, 5);
        x.sheet(2, 0, 5);
        for (int a = 0; a < 3; a++) {
            for (int b = 0; b < 3; b++) {
                Due.is("from " + a + " to " + b, x.copy(a, 0, b, 0, 1), a == b ? 1 : OTHER_SORT);
            }
        }
        Due.is("ahead of -12", x.copy(0, -1, 1, 0, -1), OTHER_SORT);
        Due.is("none of them, too", x.copy(0, 0, 1, 0, 0), OTHER_SORT);
    }

    private static void copyOutside() {
        Due.sentence("Promise 31", "-12 (also with n below 0).");
        ArmpitLine x = new ArmpitLine();
        x.sheet(0, 2, 5);
        x.sheet(1, 2, 3);
        int[][] inside = {{0, 0, 0}, {0, 0, 1}, {0, 0, 3}, {2, 0, 3}, {4, 2, 1}, {5, 3, 0}, {5, 0, 0}, {0, 3, 0}};
        for (int[] a : inside) {
            Due.is("from " + a[0] + " to " + a[1] + ": " + a[2], x.copy(0, a[0], 1, a[1], a[2]), a[2]);
        }
        int[][] outside = {{0, 0, -1}, {0, 0, 4}, {-1, 0, 0}, {-1, 0, 1}, {0, -1, 0}, {0, -1, 1}, {3, 0, 3}, {0, 1, 3}, {5, 0, 1},
            {0, 3, 1}, {6, 0, 0}, {0, 4, 0}, {6, 0, -1}, {MOST, 0, 1}, {0, MOST, 1}, {1, 1, MOST}, {MOST, MOST, MOST},
            {0, 0, LEAST}, {LEAST, 0, 1}, {0, LEAST, 1}, {1, 1, LEAST}};
        for (int[] a : outside) {
            Due.is("from " + a[0] + " to " + a[1] + ": " + a[2], x.copy(0, a[0], 1, a[1], a[2]), OUTSIDE);
        }
        Due.is("to the smaller one's end, from the greater one", x.copy(1, 0, 0, 2, 3), 3);
        Due.is("one too far", x.copy(1, 0, 0, 3, 3), OUTSIDE);
    }

    private static void men() {
        Due.sentence("Promise 32", "MEN by a SHEET that is taken for one of a sort: from one on, three by three (as of man()),"
                + " n of them (0 .. 10): how many came (others are left out).");
        ArmpitLine x = new ArmpitLine();
        x.sheet(0, 1, 40);
        int[] told = {9, 1, 100, 7, 2, 200, -8, 4, 300, 0, 3, 10000, 0, 3, 9999, 99};
        for (int i = 0; i < told.length; i++) {
            x.cell(0, i, told[i]);
        }
        Due.is("none", x.men(0, 1, 1, 0), 0);
        Due.is("two", x.men(0, 1, 1, 2), 2);
        Due.is("the first", x.front(0, 1, 2), 107);
        Due.is("the second", x.front(1, 1, 2), 192);
        Due.is("side 4 and place 10000 are left out", x.men(0, 1, 7, 3), 1);
        Due.is("the third", x.front(2, 1, 2), 10098);
        Due.is("three are there", x.count(0), 3);
        Due.is("ten, of whom seven have room", x.men(0, 1, 10, 10), 7);
        Due.is("ten are there", x.count(0), 10);
        Due.is("ten more have none", x.men(0, 1, 0, 10), 0);
    }

    private static void menBad() {
        Due.sentence("Promise 32", "BAD: no such SHEET, sort, n");
        ArmpitLine x = new ArmpitLine();
        x.sheet(0, 0, 40);
        x.sheet(3, 2, 40);
        Due.is("sheet -1", x.men(-1, 0, 0, 0), BAD);
        Due.is("sheet 4", x.men(4, 0, 0, 0), BAD);
        Due.is("sort -1", x.men(0, -1, 0, 0), BAD);
        Due.is("sort 3", x.men(0, 3, 0, 0), BAD);
        Due.is("sort -1 of a sheet that is missing", x.men(1, -1, 0, 0), BAD);
        Due.is("n -1", x.men(0, 0, 0, -1), BAD);
        Due.is("n 11", x.men(0, 0, 0, 11), BAD);
        Due.is("ahead of -13: n", x.men(0, 1, 0, 11), BAD);
        Due.is("ahead of -11: n", x.men(1, 1, 0, 11), BAD);
        Due.is("the least of all", x.men(LEAST, LEAST, LEAST, LEAST), BAD);
        Due.is("the most of all", x.men(MOST, MOST, MOST, MOST), BAD);
        Due.is("sheet 0, sort 0, n 0", x.men(0, 0, 0, 0), 0);
        Due.is("sheet 3, sort 2, n 10", x.men(3, 2, 0, 10), 10);
    }

    private static void menOtherSort() {
        Due.sentence("Promise 32", "-13");
        for (int sort = 0; sort < 3; sort++) {
            ArmpitLine x = new ArmpitLine();
            x.sheet(0, sort, 3);
            for (int taken = 0; taken < 3; taken++) {
                Due.is("sort " + sort + " as " + taken, x.men(0, taken, 0, 1), sort == taken ? 1 : OTHER_SORT);
                Due.is("ahead of -12", x.men(0, taken, -1, 1), sort == taken ? OUTSIDE : OTHER_SORT);
                Due.is("none of them", x.men(0, taken, 0, 0), sort == taken ? 0 : OTHER_SORT);
            }
        }
        Due.sentence("Promise 32", "-11");
        ArmpitLine y = new ArmpitLine();
        for (int taken = 0; taken < 3; taken++) {
            Due.is("missing, as " + taken, y.men(0, taken, 0, 1), NOTHING);
            Due.is("missing, none of them", y.men(0, taken, 0, 0), NOTHING);
            Due.is("ahead of -12", y.men(0, taken, -1, 1), NOTHING);
        }
        y.sheet(0, 2, 3);
        Due.is("a row", y.men(0, 2, 0, 1), 1);
    }

    private static void menOutside() {
        Due.sentence("Promise 32", "-12: what stood ahead came.");
        ArmpitLine x = new ArmpitLine();
        x.sheet(0, 1, 7);
        Due.is("from -1", x.men(0, 1, -1, 1), OUTSIDE);
        Due.is("from -1, two", x.men(0, 1, -1, 2), OUTSIDE);
        Due.is("from 5: the third is outside", x.men(0, 1, 5, 1), OUTSIDE);
        Due.is("from 6: the second is outside", x.men(0, 1, 6, 1), OUTSIDE);
        Due.is("from 7", x.men(0, 1, 7, 1), OUTSIDE);
        Due.is("from the greatest int", x.men(0, 1, MOST, 2), OUTSIDE);
        Due.is("from the least int", x.men(0, 1, LEAST, 10), OUTSIDE);
        Due.is("nobody came", x.count(0), 0);
        Due.is("from 4: the last three", x.men(0, 1, 4, 1), 1);
        Due.is("from 4, two", x.men(0, 1, 4, 2), OUTSIDE);
        Due.is("the first of them came", x.count(0), 2);
        Due.is("from 0, two", x.men(0, 1, 0, 2), 2);
        Due.is("from 0, three", x.men(0, 1, 0, 3), OUTSIDE);
        Due.is("two of them came", x.count(0), 6);
        x.cell(0, 0, 4);
        Due.is("from 0, ten, of whom the first is left out", x.men(0, 1, 0, 10), OUTSIDE);
        Due.is("the second came", x.count(0), 7);
        x.sheet(0, 1, 40);
        Due.is("three more have room", x.men(0, 1, 13, 9), 3);
        Due.is("outside, though nobody has room", x.men(0, 1, 13, 10), OUTSIDE);
    }

    private static ArmpitLine oneOfEachKind() {
        ArmpitLine x = new ArmpitLine();
        x.man(0, 0, 0);
        x.man(0, 0, 0);
        x.camera(20, 19, 0);
        x.crosser(0, 0);
        for (int kind = 0; kind < 6; kind++) {
            x.call(kind, 0, 1, 200 * (kind % 2), 0);
        }
        return x;
    }

    private static void taken() {
        Due.sentence("Promise 33", "A CALL taken for one of KIND k (0 .. 5), or one under that one (also by others between):"
                + " its TICK.");
        ArmpitLine x = oneOfEachKind();
        Due.is("a call", x.taken(0, 0), 0);
        Due.is("flagged as a call", x.taken(1, 0), 200);
        Due.is("flagged", x.taken(1, 1), 200);
        Due.is("near as near", x.taken(3, 3), 200);
        Due.is("near as lined", x.taken(3, 2), 200);
        Due.is("near as a call, by lined between", x.taken(3, 0), 200);
        Due.is("waited as flagged", x.taken(4, 1), 0);
        Due.is("waited as a call, by flagged between", x.taken(4, 0), 0);
        Due.is("a machine as a call, by lined between", x.taken(5, 0), 200);
        Due.is("a machine as lined", x.taken(5, 2), 200);
        Due.is("a machine", x.taken(5, 5), 200);
    }

    private static void takenRefused() {
        ArmpitLine x = oneOfEachKind();
        Due.sentence("Promise 33", "BAD: k");
        Due.is("k -1", x.taken(0, -1), BAD);
        Due.is("k 0", x.taken(0, 0), 0);
        Due.is("k 5", x.taken(5, 5), 200);
        Due.is("k 6", x.taken(5, 6), BAD);
        Due.is("ahead of -11", x.taken(6, 6), BAD);
        Due.is("the least of all", x.taken(LEAST, LEAST), BAD);
        Due.sentence("Promise 33", "-11: no such CALL");
        Due.is("call -1", x.taken(-1, 0), NOTHING);
        Due.is("call 6 of six", x.taken(6, 0), NOTHING);
        Due.is("call 5", x.taken(5, 0), 200);
        Due.is("the least int", x.taken(LEAST, 5), NOTHING);
        Due.is("the greatest int", x.taken(MOST, 5), NOTHING);
        Due.sentence("Promise 33", "-13.");
        Due.is("a call as flagged", x.taken(0, 1), OTHER_SORT);
        Due.is("flagged as lined", x.taken(1, 2), OTHER_SORT);
        Due.is("flagged as waited", x.taken(1, 4), OTHER_SORT);
        Due.is("lined as near", x.taken(2, 3), OTHER_SORT);
        Due.is("near as flagged", x.taken(3, 1), OTHER_SORT);
        Due.is("near as a machine", x.taken(3, 5), OTHER_SORT);
        Due.is("waited as lined", x.taken(4, 2), OTHER_SORT);
        Due.is("a machine as near", x.taken(5, 3), OTHER_SORT);
        Due.is("a machine as flagged", x.taken(5, 1), OTHER_SORT);
    }
}
