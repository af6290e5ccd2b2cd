import java.util.ArrayList;
import java.util.List;
import java.util.Random;

/** Random runs of calls on fresh objects: each answer is due to be the one that Twin gives. */
public final class TwinTest {
    private static final int RUNS = 1500;
    private static final String[] WORDS = {"part", "off", "speed", "team", "tick", "width", "count", "near", "play",
        "or", "and", "not", "(", ")", ";", "+", "-", "*", "<", "=", "0", "1", "7", "42", "999", "9999", "12345", "x", "?", "\n"};

    private final Random random;
    private final ArmpitLine mine = new ArmpitLine();
    private final Twin twin = new Twin();
    private final List<String> said = new ArrayList<>();
    private final boolean isTight;
    private boolean isAlike = true;

    /** In a tight run men stay near one another and slow, so that many calls hang on the width. */
    private TwinTest(long seed) {
        random = new Random(seed);
        isTight = seed % 2 == 0;
    }

    public static void main(String[] args) {
        int runs = args.length > 0 ? Integer.parseInt(args[0]) : RUNS;
        long first = args.length > 1 ? Long.parseLong(args[1]) : 0;
        for (long seed = first; seed < first + runs; seed++) {
            TwinTest test = new TwinTest(seed);
            test.run();
            Due.holds("run " + seed, test.isAlike);
            if (!test.isAlike) {
                test.said.forEach(System.out::println);
                break;
            }
        }
        Due.end();
    }

    private void run() {
        int calls = 0;
        if (random.nextInt(8) != 0) {
            calls += lay();
        }
        while (calls < 512 && isAlike) {
            calls += step();
        }
    }

    /** Things enough for calls to be made, as wholly random runs seldom have them. */
    private int lay() {
        int men = 2 + random.nextInt(4);
        for (int k = 0; k < men; k++) {
            int side = random.nextInt(4);
            int place = 1000 + random.nextInt(60);
            int speed = isTight ? random.nextInt(3) - 1 : random.nextInt(13) - 6;
            due("man " + side + " " + place + " " + speed, mine.man(side, place, speed), twin.man(side, place, speed));
        }
        due("camera", mine.camera(5, 2, 3), twin.camera(5, 2, 3));
        due("crosser", mine.crosser(-4, 3), twin.crosser(-4, 3));
        return men + 2 + (isTight ? layWidths() : 0);
    }

    private int layWidths() {
        for (int sheet = 0; sheet < 2; sheet++) {
            due("sheet " + sheet + " 2 6", mine.sheet(sheet, 2, 6), twin.sheet(sheet, 2, 6));
            for (int i = 0; i < 6; i++) {
                int v = random.nextInt(40);
                due("cell " + sheet + " " + i + " " + v, mine.cell(sheet, i, v), twin.cell(sheet, i, v));
            }
        }
        return 14;
    }

    private void due(String call, long got, long want) {
        said.add(call + " : " + got + (got == want ? "" : " but due is " + want));
        isAlike &= got == want;
    }

    /** Mostly a number from a to b, sometimes one beside them or far off. */
    private int some(int a, int b) {
        int[] odd = {a - 1, b + 1, -1, 0, 1000, Integer.MIN_VALUE, Integer.MAX_VALUE, a, b};
        return random.nextInt(25) == 0 ? odd[random.nextInt(odd.length)] : a + random.nextInt(b - a + 1);
    }

    private int oneOf(int size) {
        return some(0, Math.max(0, size - 1));
    }

    private int bits() {
        int n = mine.count(3);
        return random.nextInt(30) == 0 ? random.nextInt() : random.nextInt(1 << n);
    }

    private int step() {
        switch (random.nextInt(7)) {
            case 0:
                return stepOfMen();
            case 1:
                return stepOfThings();
            case 2:
                return random.nextInt(4) == 0 ? stepOfTexts() : stepOfRule();
            case 3:
                return stepOfTold();
            case 4:
                return stepOfWidths();
            case 5:
                return stepOfCases();
            default:
                return stepOfSheets();
        }
    }

    private int stepOfMen() {
        int a = oneOf(mine.count(0));
        int what;
        int v;
        switch (random.nextInt(8)) {
            case 0:
                int side = some(0, 3);
                int place = isTight || random.nextBoolean() ? some(1000, 1060) : some(0, 9999);
                v = isTight ? some(-2, 2) : some(-99, 99);
                due("man " + side + " " + place + " " + v, mine.man(side, place, v), twin.man(side, place, v));
                return 1;
            case 1:
            case 2:
            case 3:
                what = some(0, 3);
                v = isTight || random.nextBoolean() ? some(-9, 9) : some(-199, 199);
                due("part " + a + " " + what + " " + v, mine.part(a, what, v), twin.part(a, what, v));
                return 1;
            case 4:
                what = some(0, 1);
                v = what == 0 ? some(1000, 1060) : isTight ? some(-2, 2) : some(-9, 9);
                due("move " + a + " " + what + " " + v, mine.move(a, what, v), twin.move(a, what, v));
                return 1;
            case 5:
                what = some(0, 1);
                what = isTight ? 1 : what;
                v = isTight ? some(-1, 1) : what == 0 ? some(0, 9999) : some(-99, 99);
                due("move " + a + " " + what + " " + v, mine.move(a, what, v), twin.move(a, what, v));
                return 1;
            default:
                v = some(0, 200);
                what = some(0, 2);
                due("front " + a + " " + v + " " + what, mine.front(a, v, what), twin.front(a, v, what));
                return 1;
        }
    }

    private int stepOfThings() {
        int a;
        int b;
        int c;
        switch (random.nextInt(8)) {
            case 0:
                a = some(1, 20);
                b = some(0, 19);
                c = some(-9, 9);
                due("camera " + a + " " + b + " " + c, mine.camera(a, b, c), twin.camera(a, b, c));
                return 1;
            case 1:
                a = some(-20, 20);
                b = some(0, 9);
                due("crosser " + a + " " + b, mine.crosser(a, b), twin.crosser(a, b));
                return 1;
            case 2:
                a = oneOf(mine.count(1));
                b = some(0, 200);
                due("frame " + a + " " + b, mine.frame(a, b), twin.frame(a, b));
                return 1;
            case 3:
                a = oneOf(mine.count(1));
                b = some(-99999, 99999);
                due("sees " + a + " " + b, mine.sees(a, b), twin.sees(a, b));
                return 1;
            default:
                int kind = some(0, 5);
                a = oneOf(mine.count(0));
                b = oneOf(mine.count(0));
                c = isTight || random.nextBoolean() ? some(0, 12) : some(0, 200);
                int by = oneOf(mine.count(1)) * 10 + oneOf(mine.count(2));
                due("call " + kind + " " + a + " " + b + " " + c + " " + by, mine.call(kind, a, b, c, by), twin.call(kind, a, b, c, by));
                return 1;
        }
    }

    private String sum(int depth) {
        String[] ones = {"part", "off", "speed", "team", "tick", "width", "" + random.nextInt(6), "" + random.nextInt(10000)};
        if (depth == 0 || random.nextInt(3) == 0) {
            return ones[random.nextInt(ones.length)];
        }
        String a = sum(depth - 1);
        String b = sum(depth - 1);
        String[] joined = {a + " + " + b, a + "-" + b, a + "*" + b, "(" + a + " < " + b + ")", "(" + a + "=" + b + ")",
            "(" + a + " or " + b + ")", "(" + a + " and " + b + ")", "(not " + a + ")", "-" + a, "(" + a + ")"};
        return joined[random.nextInt(joined.length)];
    }

    private String randomText() {
        StringBuilder b = new StringBuilder();
        if (random.nextInt(5) == 0) {
            for (int n = random.nextInt(25); n > 0; n--) {
                b.append(WORDS[random.nextInt(WORDS.length)]).append(random.nextBoolean() ? " " : "");
            }
            return b.toString();
        }
        b.append("count ").append(random.nextInt(4) == 0 ? "not " : "").append(sum(3));
        b.append(random.nextBoolean() ? " < " + sum(2) : "");
        b.append(";near ").append(sum(2)).append(" ;\nplay ").append(sum(1)).append(random.nextBoolean() ? " or tick" : "").append(";");
        if (random.nextInt(6) == 0) {
            b.setCharAt(random.nextInt(b.length()), (char) random.nextInt(256));
        }
        if (random.nextInt(9) == 0) {
            b.insert(random.nextInt(b.length()), WORDS[random.nextInt(WORDS.length)]);
        }
        return b.toString();
    }

    private int stepOfTexts() {
        String text = randomText();
        int fed = 0;
        for (int i = 0; i < text.length(); ) {
            int n = Math.min(some(1, 8), text.length() - i);
            long bytes = random.nextLong();
            for (int k = 0; k < n && k < 8; k++) {
                bytes = bytes & ~(255L << (8 * k)) | (long) text.charAt(i + k) << (8 * k);
            }
            due("feed " + n + " " + bytes, mine.feed(n, bytes), twin.feed(n, bytes));
            i += Math.max(1, n);
            fed++;
        }
        said.add(text);
        due("text", mine.text(), twin.text());
        return fed + 1;
    }

    private int stepOfRule() {
        int a;
        switch (random.nextInt(3)) {
            case 0:
                a = isTight && random.nextBoolean() ? 0 : oneOf(mine.count(6));
                due("force " + a, mine.force(a), twin.force(a));
                return 1;
            case 1:
                a = random.nextBoolean() ? some(0, 999) : some(0, 30);
                due("width " + a, mine.width(a), twin.width(a));
                return 1;
            default:
                a = oneOf(mine.count(0));
                int part = some(0, 3);
                int tick = some(0, 200);
                int key = some(0, 2);
                due("says " + a + " " + part + " " + tick + " " + key, mine.says(a, part, tick, key), twin.says(a, part, tick, key));
                return 1;
        }
    }

    private int stepOfTold() {
        int c = oneOf(mine.count(3));
        int what = some(0, 9);
        if (random.nextInt(6) == 0) {
            due("offside", mine.offside(), twin.offside());
        } else if (random.nextInt(6) == 0) {
            int k = some(0, 5);
            due("taken " + c + " " + k, mine.taken(c, k), twin.taken(c, k));
        } else if (what != 9 || random.nextInt(4) == 0) {
            due("told " + c + " " + what, mine.told(c, what), twin.told(c, what));
        }
        return 1;
    }

    private int stepOfWidths() {
        int a = some(0, 3);
        int b = bits();
        int c;
        int d;
        switch (random.nextInt(6)) {
            case 0:
                c = some(0, 4);
                d = some(0, 1);
                due("wrong " + a + " " + b + " " + c + " " + d, mine.wrong(a, b, c, d), twin.wrong(a, b, c, d));
                return 1;
            case 1:
                c = some(0, 9999);
                due("best " + a + " " + b + " " + c, mine.best(a, b, c), twin.best(a, b, c));
                return 1;
            case 2:
                c = some(0, 3) * 10 + some(0, 3);
                d = isTight || random.nextBoolean() ? some(0, 1) : some(0, 99);
                due("match " + c + " " + d + " " + b, mine.match(c, d, b), twin.match(c, d, b));
                return 1;
            case 3:
                c = random.nextBoolean() ? some(0, 999) : some(0, 30);
                d = some(0, 3);
                due("table " + c + " " + a + " " + d, mine.table(c, a, d), twin.table(c, a, d));
                return 1;
            case 4:
                due("season " + a, mine.season(a), twin.season(a));
                return 1;
            default:
                c = random.nextBoolean() ? some(0, 999) : some(0, 30);
                due("stand " + a + " " + c + " " + b, mine.stand(a, c, b), twin.stand(a, c, b));
                return 1;
        }
    }

    private int stepOfCases() {
        int a;
        int b;
        switch (random.nextInt(6)) {
            case 0:
                a = some(0, 63);
                b = random.nextInt(6) == 0 ? some(0, 3) : (a & 9) == 0 ? 0 : 1;
                due("shown " + a + " " + b, mine.shown(a, b), twin.shown(a, b));
                return 1;
            case 1:
                due("split", mine.split(), twin.split());
                return 1;
            case 2:
                if (random.nextInt(4) == 0) {
                    due("image", mine.image(), twin.image());
                }
                return 1;
            case 3:
                due("back", mine.back(), twin.back());
                return 1;
            default:
                a = some(0, 9);
                due("count " + a, mine.count(a), twin.count(a));
                return 1;
        }
    }

    private int stepOfSheets() {
        int a = some(0, 3);
        int b;
        int c;
        int d;
        int e;
        switch (isTight ? 3 : random.nextInt(9)) {
            case 0:
                b = random.nextInt(9) == 0 ? -1 : some(0, 2);
                c = random.nextInt(4) == 0 ? some(0, 40) : some(0, 8);
                due("sheet " + a + " " + b + " " + c, mine.sheet(a, b, c), twin.sheet(a, b, c));
                return 1;
            case 1:
                b = some(0, 8);
                c = some(0, 8);
                d = some(0, 3);
                e = some(0, 6);
                due("copy " + a + " " + b + " " + d + " " + c + " " + e, mine.copy(a, b, d, c, e), twin.copy(a, b, d, c, e));
                return 1;
            case 2:
                if (random.nextInt(4) != 0) {
                    return 1;
                }
                b = some(0, 2);
                c = some(0, 6);
                d = some(0, 3);
                due("men " + a + " " + b + " " + c + " " + d, mine.men(a, b, c, d), twin.men(a, b, c, d));
                return 1;
            default:
                b = some(0, 8);
                c = random.nextInt(12) == 0 && !isTight ? random.nextInt() : random.nextBoolean() ? some(0, 3) : some(0, 60);
                due("cell " + a + " " + b + " " + c, mine.cell(a, b, c), twin.cell(a, b, c));
                return 1;
        }
    }
}
