import java.util.LinkedHashMap;
import java.util.Map;

/** The sentence on refusals of all calls: which one is answered, and that it changes nothing. */
final class RefusalSentences {
    private static final int LEAST = Integer.MIN_VALUE, MOST = Integer.MAX_VALUE;
    private static final int BAD = ArmpitLine.BAD, FULL = ArmpitLine.FULL, STATE = ArmpitLine.STATE, NONE = ArmpitLine.NONE;
    private static final long NO = ArmpitLine.NO;
    private static final long BLANKS = 0x2020202020202020L;

    /** A call of an object that is refused there. */
    private interface Refused {
        long by(ArmpitLine x);
    }

    private final Map<String, Refused> calls = new LinkedHashMap<>();
    private final Map<String, Long> answers = new LinkedHashMap<>();

    private RefusalSentences() {
    }

    static void all() {
        Due.sentence("Terms 1", "Refusals, the first that the call's words name");
        firstOfMen();
        firstOfTexts();
        firstOfWidths();
        firstOfHost();
        Due.sentence("Terms 1", "they change nothing:");
        RefusalSentences some = new RefusalSentences();
        some.onMen();
        some.onTextsAndCalls();
        some.onWidths();
        some.onHost();
        some.changeNothingIn(false);
        RefusalSentences full = new RefusalSentences();
        full.onFull();
        full.changeNothingIn(true);
        withoutImage();
    }

    private static void firstOfMen() {
        ArmpitLine x = full();
        Due.is("man, bad and full", x.man(4, 0, 0), BAD);
        Due.is("man, full", x.man(3, 0, 0), FULL);
        Due.is("camera, bad and full", x.camera(0, 0, 0), BAD);
        Due.is("camera, full", x.camera(1, 0, 0), FULL);
        Due.is("crosser, bad and full", x.crosser(21, 0), BAD);
        Due.is("crosser, full", x.crosser(20, 0), FULL);
        Due.is("call, bad and full", x.call(0, 0, 0, 0, 0), BAD);
        Due.is("call, full", x.call(0, 0, 1, 0, 0), FULL);
        Due.is("match, bad and full", x.match(0, 0, 0), BAD);
        Due.is("match, full", x.match(1, 0, 0), FULL);
        Due.is("case, bad and full", x.shown(64, 0), BAD);
        Due.is("case, full", x.shown(63, 0), FULL);
    }

    private static void firstOfTexts() {
        ArmpitLine x = full();
        Due.is("feed, bad and full", x.feed(9, 0), BAD);
        Due.is("feed, full", x.feed(8, 0), FULL);
        Due.is("text, full and a fault", x.text(), FULL);
    }

    private static void firstOfWidths() {
        ArmpitLine x = some();
        Due.is("wrong: calls, missing, no i", x.wrong(3, 1 << 20, 9, 0), BAD);
        Due.is("wrong: missing, no i", x.wrong(3, 1, 9, 0), -11);
        Due.is("wrong: a number, no i", x.wrong(1, 1, 9, 0), BAD);
        Due.is("wrong: no i", x.wrong(0, 1, 9, 0), NONE);
        Due.is("best: prices, missing", x.best(3, 1, -1), BAD);
        Due.is("best: missing", x.best(3, 1, 0), -11);
        Due.is("best: a number", x.best(1, 1, 0), BAD);
        Due.is("season: missing", x.season(3), -11);
        Due.is("season: a number", x.season(1), BAD);
    }

    private static void firstOfHost() {
        ArmpitLine x = some();
        Due.is("sheet: sort, size", x.sheet(0, 3, -1), BAD);
        Due.is("sheet: size", x.sheet(0, 2, -1), -14);
        Due.is("cell: missing, outside", x.cell(3, -1, 0), -11);
        Due.is("cell: outside", x.cell(0, -1, 0), -12);
        Due.is("copy: sheet, missing", x.copy(4, 0, 3, 0, 0), BAD);
        Due.is("copy: missing, outside", x.copy(0, -1, 3, 0, 0), -11);
        Due.is("copy: sort, outside", x.copy(0, -1, 1, 0, 0), -13);
        Due.is("copy: outside", x.copy(0, -1, 0, 0, 0), -12);
        Due.is("men: n, sort", x.men(0, 1, -1, 11), BAD);
        Due.is("men: sort, outside", x.men(0, 1, -1, 1), -13);
        Due.is("men: missing, outside", x.men(3, 1, -1, 1), -11);
        Due.is("men: outside", x.men(0, 2, -1, 1), -12);
        Due.is("taken: k, call", x.taken(9, 6), BAD);
        Due.is("taken: call", x.taken(9, 5), -11);
        Due.is("taken: kind", x.taken(0, 5), -13);
    }

    /** An object with some of all: sheet 0 has widths, 1 bytes that are none, 2 shorts, 3 is missing. */
    private static ArmpitLine some() {
        ArmpitLine x = new ArmpitLine();
        x.man(0, 510, 1);
        x.man(1, 500, -2);
        x.man(2, 530, 3);
        x.part(0, 1, 4);
        x.part(2, 3, -5);
        x.camera(5, 2, 3);
        x.camera(1, 0, -9);
        x.crosser(7, 2);
        x.width(6);
        Due.read(x, "count part; near width; play tick;");
        x.image();
        for (int kind = 0; kind < 6; kind++) {
            x.call(kind, kind % 3, (kind + 1) % 3, 3 + kind, 10 * (kind % 2));
        }
        x.match(1, 21, 63);
        x.match(32, 0, 7);
        x.shown(5, 1);
        x.shown(6, 0);
        Due.ints(x, 0, 3, 9, 0, 50);
        x.sheet(1, 0, 6);
        int[] men = {1, 100, -3, 3, 127, 9};
        for (int i = 0; i < men.length; i++) {
            x.cell(1, i, men[i]);
        }
        x.sheet(2, 1, 4);
        x.cell(2, 1, 777);
        x.move(0, 0, 511);
        x.width(8);
        x.force(1);
        x.feed(5, 0x206e6f7470L);
        return x;
    }

    /** An object with as much of all as there can be. */
    private static ArmpitLine full() {
        ArmpitLine x = new ArmpitLine();
        for (int m = 0; m < 10; m++) {
            x.man(m % 4, 500 + m, m);
        }
        for (int c = 0; c < 6; c++) {
            x.camera(c + 1, c, c);
            x.crosser(c, c);
        }
        for (int c = 0; c < 24; c++) {
            x.call(c % 6, c % 10, (c + 3) % 10, c, c % 4 * 10 + c % 6);
        }
        for (int m = 0; m < 12; m++) {
            x.match(m % 3 * 10 + 3, m, m);
        }
        for (int c = 0; c < 40; c++) {
            x.shown(c, c % 2);
        }
        for (int t = 0; t < 5; t++) {
            Due.read(x, "count 1;near 2;play 3;");
        }
        for (int k = 0; k < 20; k++) {
            x.feed(8, BLANKS);
        }
        return x;
    }

    /** What calls that only tell answer of an object; at the end of it, what its sheets, image and tape hold. */
    private static String seen(ArmpitLine x, boolean isFull) {
        StringBuilder b = new StringBuilder();
        for (int what = 0; what < 10; what++) {
            b.append(x.count(what)).append(' ');
        }
        for (int m = 0; m < x.count(0); m++) {
            b.append(x.front(m, 3, 0)).append(' ').append(x.front(m, 0, 2)).append(' ').append(x.front(m, 5, 1)).append(' ');
        }
        for (int c = 0; c < x.count(1); c++) {
            b.append(x.frame(c, 9)).append(' ').append(x.sees(c, 9000)).append(' ');
        }
        for (int c = 0; c < x.count(3); c++) {
            for (int what = 0; what < (isFull ? 3 : 10); what++) {
                b.append(x.told(c, what)).append(' ');
            }
        }
        for (int side = 0; side < 4; side++) {
            b.append(x.table(8, side, 1)).append(' ').append(x.table(8, side, 3)).append(' ').append(x.stand(side, 5, 1)).append(' ');
        }
        b.append(x.offside()).append(' ').append(x.split());
        seenOfSheets(x, b);
        return b.toString();
    }

    private static void seenOfSheets(ArmpitLine x, StringBuilder b) {
        b.append(" sheets ").append(x.cell(3, 0, 0)).append(' ').append(x.season(0)).append(' ').append(x.best(0, 1, 101));
        for (int i = 0; i < 5; i++) {
            b.append(' ').append(x.wrong(0, 1, i, 0)).append(' ').append(x.copy(0, 0, 1, 0, i)).append(' ').append(x.copy(2, i, 2, i, 0));
        }
        b.append(' ').append(x.men(1, 0, 0, 2)).append(' ').append(x.cell(1, 6, 0)).append(' ').append(x.men(2, 1, 0, 1));
        for (int m = 0; m < x.count(0); m++) {
            b.append(' ').append(x.front(m, 1, 2));
        }
        b.append(" image ").append(x.back());
        for (int m = 0; m < x.count(0); m++) {
            b.append(' ').append(x.front(m, 1, 0));
        }
        b.append(" tape ").append(x.feed(1, '?')).append(' ').append(x.text());
    }

    private void add(String call, long answer, Refused refused) {
        calls.put(call, refused);
        answers.put(call, answer);
    }

    private void onMen() {
        add("man side", BAD, x -> x.man(4, 0, 0));
        add("man place", BAD, x -> x.man(0, 10000, 0));
        add("man speed", BAD, x -> x.man(0, 0, 100));
        add("part man", -1000, x -> x.part(3, 0, 1));
        add("part part", -1000, x -> x.part(0, 4, 1));
        add("part off", -1000, x -> x.part(0, 1, 200));
        add("move man", -1000, x -> x.move(3, 0, 1));
        add("move what", -1000, x -> x.move(0, 2, 1));
        add("move place", -1000, x -> x.move(0, 0, 10000));
        add("move speed", -1000, x -> x.move(0, 1, -100));
        add("front", NO, x -> x.front(0, 201, 0));
        add("camera every", BAD, x -> x.camera(0, 0, 0));
        add("camera first", BAD, x -> x.camera(1, 20, 0));
        add("camera slant", BAD, x -> x.camera(1, 0, 10));
        add("frame", BAD, x -> x.frame(2, 0));
        add("sees", NO, x -> x.sees(0, 100000));
        add("crosser lean", BAD, x -> x.crosser(21, 0));
        add("crosser spread", BAD, x -> x.crosser(0, 10));
    }

    private void onTextsAndCalls() {
        add("feed n 0", BAD, x -> x.feed(0, BLANKS));
        add("feed n 9", BAD, x -> x.feed(9, BLANKS));
        add("force", BAD, x -> x.force(2));
        add("says", NO, x -> x.says(0, 0, 0, 3));
        add("width", BAD, x -> x.width(1000));
        add("call kind", BAD, x -> x.call(6, 0, 1, 0, 0));
        add("call men", BAD, x -> x.call(0, 1, 1, 0, 0));
        add("call tick", BAD, x -> x.call(0, 0, 1, 201, 0));
        add("call camera", BAD, x -> x.call(0, 0, 1, 0, 20));
        add("call crosser", BAD, x -> x.call(0, 0, 1, 0, 1));
        add("told call", NO, x -> x.told(6, 9));
        add("told what", NO, x -> x.told(0, 10));
        add("count", BAD, x -> x.count(10));
        add("shown marks", BAD, x -> x.shown(64, 0));
        add("shown word", BAD, x -> x.shown(5, 4));
    }

    private void onWidths() {
        add("wrong sheet", BAD, x -> x.wrong(4, 1, 0, 0));
        add("wrong calls", BAD, x -> x.wrong(0, 64, 0, 0));
        add("wrong missing", -11, x -> x.wrong(3, 1, 0, 0));
        add("wrong number", BAD, x -> x.wrong(1, 1, 0, 0));
        add("wrong i", NONE, x -> x.wrong(0, 1, 4, 0));
        add("best prices", BAD, x -> x.best(0, 1, 10000));
        add("best missing", -11, x -> x.best(3, 1, 0));
        add("match sides", BAD, x -> x.match(22, 0, 0));
        add("match goals", BAD, x -> x.match(1, 100, 0));
        add("match calls", BAD, x -> x.match(1, 0, 64));
        add("table width", BAD, x -> x.table(1000, 0, 0));
        add("table side", BAD, x -> x.table(0, 4, 0));
        add("season", -11, x -> x.season(3));
        add("stand side", BAD, x -> x.stand(4, 0, 0));
        add("stand width", BAD, x -> x.stand(0, 1000, 0));
        add("stand calls", BAD, x -> x.stand(0, 500, 64));
    }

    private void onHost() {
        add("sheet sheet", BAD, x -> x.sheet(4, 0, 1));
        add("sheet sort", BAD, x -> x.sheet(0, 3, 1));
        add("sheet n 41", BAD, x -> x.sheet(0, 2, 41));
        add("sheet n -1", -14, x -> x.sheet(0, 2, -1));
        add("sheet n -1 of another sort", -14, x -> x.sheet(1, 2, -1));
        add("sheet n 41 of one that is missing", BAD, x -> x.sheet(3, 2, 41));
        add("cell sheet", BAD, x -> x.cell(-1, 0, 1));
        add("cell missing", -11, x -> x.cell(3, 0, 1));
        add("cell outside", -12, x -> x.cell(0, 4, 1));
        add("cell ahead", -12, x -> x.cell(1, -1, 1));
        add("copy sheet", BAD, x -> x.copy(0, 0, 4, 0, 1));
        add("copy missing", -11, x -> x.copy(0, 0, 3, 0, 1));
        add("copy sorts", -13, x -> x.copy(0, 0, 1, 0, 1));
        add("copy outside", -12, x -> x.copy(0, 0, 0, 1, 4));
        add("copy from outside", -12, x -> x.copy(1, 3, 1, 0, 4));
        add("men sheet", BAD, x -> x.men(-1, 0, 0, 1));
        add("men n", BAD, x -> x.men(1, 0, 0, 11));
        add("men sort", -13, x -> x.men(1, 1, 0, 1));
        add("men missing", -11, x -> x.men(3, 0, 0, 1));
        add("men outside", -12, x -> x.men(1, 0, 4, 1));
        add("taken k", BAD, x -> x.taken(0, 6));
        add("taken call", -11, x -> x.taken(6, 0));
        add("taken kind", -13, x -> x.taken(0, 1));
        add("the least", BAD, x -> x.sheet(LEAST, LEAST, LEAST));
        add("the most", BAD, x -> x.cell(MOST, MOST, MOST));
    }

    private void onFull() {
        add("man full", FULL, x -> x.man(0, 0, 0));
        add("camera full", FULL, x -> x.camera(1, 0, 0));
        add("crosser full", FULL, x -> x.crosser(0, 0));
        add("feed full", FULL, x -> x.feed(1, '?'));
        add("text full", FULL, ArmpitLine::text);
        add("call full", FULL, x -> x.call(0, 0, 1, 0, 0));
        add("match full", FULL, x -> x.match(1, 99, 0));
        add("case full", FULL, x -> x.shown(0, 1));
    }

    /** Each call is refused by an object; what is seen of it then is what is seen of one that was not asked. */
    private void changeNothingIn(boolean isFull) {
        String due = seen(isFull ? full() : some(), isFull);
        for (Map.Entry<String, Refused> call : calls.entrySet()) {
            ArmpitLine x = isFull ? full() : some();
            Due.is(call.getKey(), call.getValue().by(x), answers.get(call.getKey()));
            String got = seen(x, isFull);
            Due.holds(call.getKey() + ": all is as it was, " + got + " as " + due, got.equals(due));
        }
    }

    private static void withoutImage() {
        ArmpitLine x = new ArmpitLine();
        x.man(0, 7, 1);
        x.part(0, 1, 9);
        x.width(5);
        Due.is("back", x.back(), STATE);
        Due.is("front", x.front(0, 1, 0), 17);
        Due.is("width", x.count(9), 5);
        Due.is("back again", x.back(), STATE);
    }
}
