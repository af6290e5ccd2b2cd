import java.util.ArrayList;
import java.util.Arrays;
import java.util.HashMap;
import java.util.List;
import java.util.Map;
import java.util.regex.Matcher;
import java.util.regex.Pattern;

/**
 * A second program for the same document, written in another way (objects that are copied for each
 * "as if", kinds by inheritance, texts as trees): what both answer is compared by TwinTest.
 */
final class Twin {
    static final long NO = -4611686018427387904L;

    static final class Man {
        int side;
        int place;
        int speed;
        int[] off = new int[4];

        Man copy() {
            Man m = new Man();
            m.side = side;
            m.place = place;
            m.speed = speed;
            m.off = off.clone();
            return m;
        }
    }

    interface Expr {
        int of(Map<String, Integer> names);
    }

    static final class Fault extends RuntimeException {
        private static final long serialVersionUID = 1L;
        final int place;

        Fault(int place) {
            super(null, null, false, false);
            this.place = place;
        }
    }

    /** What a call depends on: copied, then changed, for each "as if". */
    static final class World {
        List<Man> men = new ArrayList<>();
        int width;
        List<Map<String, Expr>> texts = new ArrayList<>();
        int rule;
        List<int[]> cameras = new ArrayList<>();
        List<int[]> crossers = new ArrayList<>();

        World copy() {
            World w = new World();
            for (Man m : men) {
                w.men.add(m.copy());
            }
            w.width = width;
            w.texts = texts;
            w.rule = rule;
            w.cameras = cameras;
            w.crossers = crossers;
            return w;
        }

        World withWidth(int v) {
            World w = copy();
            w.width = v;
            return w;
        }

        int says(String key, int man, int part, int tick) {
            Man m = men.get(man);
            Map<String, Integer> names = new HashMap<>();
            names.put("part", part);
            names.put("off", m.off[part]);
            names.put("speed", m.speed);
            names.put("team", m.side);
            names.put("tick", tick);
            names.put("width", width);
            return texts.get(rule).get(key).of(names);
        }

        int where(int man, int tick) {
            return men.get(man).place + tick * men.get(man).speed;
        }

        List<Integer> counting(int man, int tick) {
            List<Integer> those = new ArrayList<>();
            for (int p = 0; p < 4; p++) {
                if (says("count", man, p, tick) != 0) {
                    those.add(p);
                }
            }
            return those;
        }

        int foremost(int man, int tick) {
            List<Integer> those = counting(man, tick);
            those.sort((a, b) -> men.get(man).off[a] != men.get(man).off[b]
                    ? men.get(man).off[b] - men.get(man).off[a] : a - b);
            return those.isEmpty() ? 3 : those.get(0);
        }

        int front(int man, int tick) {
            if (counting(man, tick).isEmpty()) {
                return where(man, tick);
            }
            return where(man, tick) + men.get(man).off[foremost(man, tick)];
        }

        int frame(int camera, int tick) {
            int[] c = cameras.get(camera);
            int latest = -1;
            for (int t = c[1]; t <= tick; t += c[0]) {
                latest = t;
            }
            return latest == -1 ? c[1] : latest;
        }

        int sees(int camera, int p) {
            return (int) (p + (long) cameras.get(camera)[2] * p / 1000);
        }
    }

    static class Call {
        int kind;
        int first;
        int other;
        int tick;
        int camera;
        int crosser;

        int margin(World w) {
            return w.front(first, tick) - w.front(other, tick);
        }

        int band(World w) {
            return 0;
        }

        int spread(World w) {
            return 0;
        }

        final boolean ahead(World w) {
            return margin(w) > band(w);
        }

        final boolean offside(World w) {
            return ahead(w) && w.says("play", first, w.foremost(first, tick), tick) != 0;
        }

        final Call plain() {
            return make(0, first, other, tick, camera * 10 + crosser);
        }
    }

    static class Flagged extends Call {
        @Override
        int margin(World w) {
            return super.margin(w) + 2 * w.men.get(first).speed - 2 * w.men.get(other).speed;
        }
    }

    static class Lined extends Call {
        int seen(World w, int man) {
            return w.sees(camera, w.front(man, w.frame(camera, tick)));
        }

        int lean(World w, int man) {
            return w.crossers.get(crosser)[0] * (w.men.get(man).speed > 0 ? 1 : -1);
        }

        @Override
        int margin(World w) {
            return (seen(w, first) + lean(w, first)) - (seen(w, other) + lean(w, other));
        }

        @Override
        int band(World w) {
            return super.band(w) + 1;
        }

        @Override
        int spread(World w) {
            return w.crossers.get(crosser)[1];
        }
    }

    static final class Near extends Lined {
        @Override
        int band(World w) {
            int near = w.says("near", first, w.foremost(first, tick), tick);
            return super.band(w) + (near < 0 ? 0 : near > 999 ? 999 : near);
        }
    }

    static final class Waited extends Flagged {
        @Override
        int margin(World w) {
            return super.margin(w) - 10;
        }

        @Override
        int band(World w) {
            return super.band(w) + 3;
        }
    }

    static final class Machine extends Lined {
        @Override
        int lean(World w, int man) {
            return 0;
        }

        @Override
        int margin(World w) {
            return super.margin(w) - 2;
        }

        @Override
        int spread(World w) {
            return 0;
        }
    }

    static Call make(int kind, int first, int other, int tick, int by) {
        Call[] kinds = {new Call(), new Flagged(), new Lined(), new Near(), new Waited(), new Machine()};
        Call c = kinds[kind];
        c.kind = kind;
        c.first = first;
        c.other = other;
        c.tick = tick;
        c.camera = by / 10;
        c.crosser = by % 10;
        return c;
    }

    private final World world = new World();
    private final List<Integer> tape = new ArrayList<>();
    private final List<Call> calls = new ArrayList<>();
    private final List<int[]> matches = new ArrayList<>();
    private final List<int[]> cases = new ArrayList<>();
    private final Object[] sheets = new Object[4];
    private World kept;

    Twin() {
        world.texts.add(new Text("count not part = 0 ; near width ; play 1 ;").whole());
    }

    private static boolean in(int v, int a, int b) {
        return v >= a && v <= b;
    }

    int man(int side, int place, int speed) {
        if (!in(side, 0, 3) || !in(place, 0, 9999) || !in(speed, -99, 99)) {
            return -2;
        }
        if (world.men.size() == 10) {
            return -4;
        }
        Man m = new Man();
        m.side = side;
        m.place = place;
        m.speed = speed;
        world.men.add(m);
        return world.men.size() - 1;
    }

    private boolean isMan(int m) {
        return in(m, 0, world.men.size() - 1);
    }

    int part(int man, int part, int off) {
        if (!isMan(man) || !in(part, 0, 3) || !in(off, -199, 199)) {
            return -1000;
        }
        int was = world.men.get(man).off[part];
        world.men.get(man).off[part] = off;
        return was;
    }

    int move(int man, int what, int v) {
        if (!isMan(man) || !in(what, 0, 1) || (what == 0 ? !in(v, 0, 9999) : !in(v, -99, 99))) {
            return -1000;
        }
        Man m = world.men.get(man);
        int was = what == 0 ? m.place : m.speed;
        if (what == 0) {
            m.place = v;
        } else {
            m.speed = v;
        }
        return was;
    }

    long front(int man, int tick, int what) {
        if (!isMan(man) || !in(tick, 0, 200) || !in(what, 0, 2)) {
            return NO;
        }
        return what == 0 ? world.front(man, tick) : what == 1 ? world.foremost(man, tick) : world.where(man, tick);
    }

    int camera(int every, int first, int slant) {
        if (!in(every, 1, 20) || !in(first, 0, 19) || !in(slant, -9, 9)) {
            return -2;
        }
        if (world.cameras.size() == 4) {
            return -4;
        }
        world.cameras.add(new int[] {every, first, slant});
        return world.cameras.size() - 1;
    }

    int frame(int camera, int tick) {
        return in(camera, 0, world.cameras.size() - 1) && in(tick, 0, 200) ? world.frame(camera, tick) : -2;
    }

    long sees(int camera, int p) {
        return in(camera, 0, world.cameras.size() - 1) && in(p, -99999, 99999) ? world.sees(camera, p) : NO;
    }

    int crosser(int lean, int spread) {
        if (!in(lean, -20, 20) || !in(spread, 0, 9)) {
            return -2;
        }
        if (world.crossers.size() == 6) {
            return -4;
        }
        world.crossers.add(new int[] {lean, spread});
        return world.crossers.size() - 1;
    }

    int feed(int n, long bytes) {
        if (!in(n, 1, 8)) {
            return -2;
        }
        if (tape.size() + n > 160) {
            return -4;
        }
        long rest = bytes;
        for (int i = 0; i < n; i++) {
            tape.add((int) (rest & 0xff));
            rest >>= 8;
        }
        return tape.size();
    }

    int text() {
        if (world.texts.size() == 6) {
            return -4;
        }
        StringBuilder b = new StringBuilder();
        for (int c : tape) {
            b.append((char) c);
        }
        tape.clear();
        try {
            world.texts.add(new Text(b.toString()).whole());
            return world.texts.size() - 1;
        } catch (Fault f) {
            return -100 - f.place;
        }
    }

    int force(int text) {
        if (!in(text, 0, world.texts.size() - 1)) {
            return -2;
        }
        int was = world.rule;
        world.rule = text;
        return was;
    }

    long says(int man, int part, int tick, int key) {
        if (!isMan(man) || !in(part, 0, 3) || !in(tick, 0, 200) || !in(key, 0, 2)) {
            return NO;
        }
        return world.says(Arrays.asList("count", "near", "play").get(key), man, part, tick);
    }

    int width(int v) {
        if (!in(v, 0, 999)) {
            return -2;
        }
        int was = world.width;
        world.width = v;
        return was;
    }

    int call(int kind, int first, int other, int tick, int by) {
        boolean fine = in(kind, 0, 5) && isMan(first) && isMan(other) && first != other && in(tick, 0, 200)
                && by >= 0 && by / 10 < world.cameras.size() && by % 10 < world.crossers.size();
        if (!fine) {
            return -2;
        }
        if (calls.size() == 24) {
            return -4;
        }
        calls.add(make(kind, first, other, tick, by));
        return calls.size() - 1;
    }

    long told(int call, int what) {
        if (!in(call, 0, calls.size() - 1) || !in(what, 0, 9)) {
            return NO;
        }
        Call c = calls.get(call);
        int spread = c.spread(world);
        switch (what) {
            case 0:
                return c.kind;
            case 1:
                return c.margin(world);
            case 2:
                return c.band(world);
            case 3:
                return c.ahead(world) ? 1 : 0;
            case 4:
                return c.offside(world) ? 1 : 0;
            case 5:
                return c.offside(world) == c.plain().offside(world) ? 0 : 1;
            case 6:
                int ways = 0;
                for (int a = -spread; a <= spread; a++) {
                    for (int b = -spread; b <= spread; b++) {
                        if (c.margin(world) + a - b > c.band(world)) {
                            ways++;
                        }
                    }
                }
                return ways;
            case 7:
                return (long) (2 * spread + 1) * (2 * spread + 1);
            case 8:
                Call then = c.plain();
                then.tick = world.frame(c.camera, c.tick);
                return then.margin(world) - c.plain().margin(world);
            default:
                for (int w = 0; w <= 999; w++) {
                    if (!c.ahead(world.withWidth(w))) {
                        return w;
                    }
                }
                return -1;
        }
    }

    private int offside(World w, int bits) {
        int those = 0;
        for (int c = 0; c < calls.size(); c++) {
            if ((bits & 1 << c) != 0 && calls.get(c).offside(w)) {
                those |= 1 << c;
            }
        }
        return those;
    }

    int offside() {
        return offside(world, -1);
    }

    private boolean areCalls(int bits) {
        return bits >= 0 && bits >> calls.size() == 0;
    }

    /** The widths of a sheet; null with a refusal in why[0]. */
    private int[] widths(int sheet, int[] why) {
        int[] row = row(sheet);
        if (row == null) {
            why[0] = -11;
            return null;
        }
        boolean fine = in(row.length, 1, 8);
        for (int v : row) {
            fine &= in(v, 0, 999);
        }
        why[0] = -2;
        return fine ? row : null;
    }

    private int wrongs(int width, int bits, boolean truth) {
        World w = world.withWidth(width);
        int n = 0;
        for (int c = 0; c < calls.size(); c++) {
            boolean really = calls.get(c).plain().offside(w);
            if ((bits & 1 << c) != 0 && really == truth && calls.get(c).offside(w) != truth) {
                n++;
            }
        }
        return n;
    }

    int wrong(int sheet, int bits, int i, int what) {
        if (!in(sheet, 0, 3) || !areCalls(bits) || !in(what, 0, 1)) {
            return -2;
        }
        int[] why = new int[1];
        int[] row = widths(sheet, why);
        if (row == null) {
            return why[0];
        }
        return in(i, 0, row.length - 1) ? wrongs(row[i], bits, what == 0) : -1;
    }

    int best(int sheet, int bits, int prices) {
        if (!in(sheet, 0, 3) || !areCalls(bits) || !in(prices, 0, 9999)) {
            return -2;
        }
        int[] why = new int[1];
        int[] row = widths(sheet, why);
        if (row == null) {
            return why[0];
        }
        int best = -1;
        long least = Long.MAX_VALUE;
        for (int v : row) {
            long cost = (long) (prices / 100) * wrongs(v, bits, true) + (long) (prices % 100) * wrongs(v, bits, false);
            if (cost < least) {
                least = cost;
                best = v;
            }
        }
        return best;
    }

    int match(int sides, int goals, int bits) {
        boolean fine = in(sides, 0, 39) && in(sides / 10, 0, 3) && in(sides % 10, 0, 3) && sides / 10 != sides % 10
                && in(goals, 0, 99) && areCalls(bits);
        if (!fine) {
            return -2;
        }
        if (matches.size() == 12) {
            return -4;
        }
        matches.add(new int[] {sides / 10, sides % 10, goals / 10, goals % 10, bits});
        return matches.size() - 1;
    }

    /** Of each side points, goals for, goals against, rank. */
    private int[][] table(int width) {
        World w = world.withWidth(width);
        int[][] t = new int[4][4];
        for (int[] m : matches) {
            int[] got = {m[2], m[3]};
            for (int c = 0; c < calls.size(); c++) {
                int side = world.men.get(calls.get(c).first).side;
                if ((m[4] & 1 << c) != 0 && !calls.get(c).offside(w)) {
                    if (side == m[0]) {
                        got[0]++;
                    } else if (side == m[1]) {
                        got[1]++;
                    }
                }
            }
            for (int k = 0; k < 2; k++) {
                t[m[k]][0] += got[k] > got[1 - k] ? 3 : got[k] == got[1 - k] ? 1 : 0;
                t[m[k]][1] += got[k];
                t[m[k]][2] += got[1 - k];
            }
        }
        for (int a = 0; a < 4; a++) {
            for (int b = 0; b < 4; b++) {
                long ofA = t[a][0] * 1000000L + (t[a][1] - t[a][2]) * 1000L + t[a][1];
                long ofB = t[b][0] * 1000000L + (t[b][1] - t[b][2]) * 1000L + t[b][1];
                t[a][3] += ofB > ofA ? 1 : 0;
            }
        }
        return t;
    }

    int table(int width, int side, int what) {
        return in(width, 0, 999) && in(side, 0, 3) && in(what, 0, 3) ? table(width)[side][what] : -2;
    }

    int season(int sheet) {
        if (!in(sheet, 0, 3)) {
            return -2;
        }
        int[] why = new int[1];
        int[] row = widths(sheet, why);
        if (row == null) {
            return why[0];
        }
        int n = 0;
        for (int i = 1; i < row.length; i++) {
            int[][] a = table(row[i - 1]);
            int[][] b = table(row[i]);
            boolean alike = true;
            for (int s = 0; s < 4; s++) {
                alike &= a[s][3] == b[s][3];
            }
            n += alike ? 0 : 1;
        }
        return n;
    }

    int stand(int side, int width, int bits) {
        if (!in(side, 0, 3) || !in(width, 0, 999) || !areCalls(bits)) {
            return -2;
        }
        World w = world.withWidth(width);
        int those = 0;
        for (Man m : w.men) {
            if (m.side == side) {
                m.place -= (width - world.width) / 2;
            }
        }
        for (int c = 0; c < calls.size(); c++) {
            if (world.men.get(calls.get(c).first).side == side) {
                those |= 1 << c;
            }
        }
        return offside(w, bits & those);
    }

    int shown(int marks, int word) {
        if (!in(marks, 0, 63) || !in(word, 0, 3)) {
            return -2;
        }
        if (cases.size() == 40) {
            return -4;
        }
        cases.add(new int[] {marks, word});
        return cases.size() - 1;
    }

    int split() {
        for (int size = 0; size <= 6; size++) {
            for (int set = 0; set < 64; set++) {
                boolean fine = Integer.bitCount(set) == size;
                for (int[] a : cases) {
                    for (int[] b : cases) {
                        fine &= (a[0] & set) != (b[0] & set) || a[1] == b[1];
                    }
                }
                if (fine) {
                    return set;
                }
            }
        }
        return -1;
    }

    int image() {
        kept = world.copy();
        return world.width;
    }

    int back() {
        if (kept == null) {
            return -3;
        }
        for (int m = 0; m < kept.men.size(); m++) {
            world.men.set(m, kept.men.get(m).copy());
        }
        world.width = kept.width;
        world.rule = kept.rule;
        return world.width;
    }

    int count(int what) {
        int[] all = {world.men.size(), world.cameras.size(), world.crossers.size(), calls.size(), matches.size(),
            cases.size(), world.texts.size(), tape.size(), world.rule, world.width};
        return in(what, 0, 9) ? all[what] : -2;
    }

    /** The numbers of a sheet; null, if it is missing. */
    private int[] row(int sheet) {
        Object s = sheets[sheet];
        if (s == null) {
            return null;
        }
        int n = java.lang.reflect.Array.getLength(s);
        int[] row = new int[n];
        for (int i = 0; i < n; i++) {
            row[i] = java.lang.reflect.Array.getInt(s, i);
        }
        return row;
    }

    int sheet(int sheet, int sort, int n) {
        if (!in(sheet, 0, 3) || !in(sort, -1, 2)) {
            return -2;
        }
        if (sort == -1) {
            sheets[sheet] = null;
            return 1;
        }
        if (n > 40) {
            return -2;
        }
        if (n < 0) {
            return -14;
        }
        sheets[sheet] = sort == 0 ? new byte[n] : sort == 1 ? new short[n] : new int[n];
        return 1;
    }

    int cell(int sheet, int i, int v) {
        if (!in(sheet, 0, 3)) {
            return -2;
        }
        Object s = sheets[sheet];
        if (s == null) {
            return -11;
        }
        try {
            if (s instanceof byte[]) {
                ((byte[]) s)[i] = (byte) v;
            } else if (s instanceof short[]) {
                ((short[]) s)[i] = (short) v;
            } else {
                ((int[]) s)[i] = v;
            }
            return 1;
        } catch (ArrayIndexOutOfBoundsException e) {
            return -12;
        }
    }

    int copy(int sheet, int i, int other, int j, int n) {
        if (!in(sheet, 0, 3) || !in(other, 0, 3)) {
            return -2;
        }
        try {
            System.arraycopy(sheets[sheet], i, sheets[other], j, n);
            return n;
        } catch (NullPointerException e) {
            return -11;
        } catch (ArrayStoreException e) {
            return -13;
        } catch (IndexOutOfBoundsException e) {
            return -12;
        }
    }

    int men(int sheet, int sort, int from, int n) {
        if (!in(sheet, 0, 3) || !in(sort, 0, 2) || !in(n, 0, 10)) {
            return -2;
        }
        Object s = sheets[sheet];
        try {
            Class<?>[] sorts = {byte[].class, short[].class, int[].class};
            sorts[sort].cast(s);
            if (s == null) {
                return -11;
            }
            int came = 0;
            for (int k = 0; k < n; k++) {
                int[] row = row(sheet);
                int at = from + 3 * k;
                int side = row[at];
                int place = row[at + 1];
                int speed = row[at + 2];
                came += man(side, place, speed) >= 0 ? 1 : 0;
            }
            return came;
        } catch (ClassCastException e) {
            return -13;
        } catch (ArrayIndexOutOfBoundsException e) {
            return -12;
        }
    }

    int taken(int call, int k) {
        if (!in(k, 0, 5)) {
            return -2;
        }
        if (!in(call, 0, calls.size() - 1)) {
            return -11;
        }
        Class<?>[] kinds = {Call.class, Flagged.class, Lined.class, Near.class, Waited.class, Machine.class};
        return kinds[k].isInstance(calls.get(call)) ? calls.get(call).tick : -13;
    }

    /** A text read by rising strength of its signs; faults are thrown. */
    private static final class Text {
        private static final Pattern TOKEN = Pattern.compile("[ \n]*([a-z]+|[0-9]+|[();+*<=-])");
        private static final Pattern BLANKS = Pattern.compile("[ \n]*");
        private static final List<String> NAMES = Arrays.asList("part", "off", "speed", "team", "tick", "width");
        private final String bytes;
        private final List<String> tokens = new ArrayList<>();
        private final List<Integer> places = new ArrayList<>();
        private int next;
        private int open;

        Text(String bytes) {
            this.bytes = bytes;
            Matcher m = TOKEN.matcher(bytes);
            int at = 0;
            while (m.find(at) && m.start() == at) {
                tokens.add(m.group(1));
                places.add(m.start(1));
                at = m.end();
            }
            Matcher rest = BLANKS.matcher(bytes);
            rest.find(at);
            tokens.add(rest.end() == bytes.length() ? "" : "?");
            places.add(rest.end());
        }

        private Fault fault() {
            return new Fault(places.get(next));
        }

        private boolean sees(String token) {
            return tokens.get(next).equals(token);
        }

        private void eat(String token) {
            if (!sees(token)) {
                throw fault();
            }
            next++;
        }

        private void enter() {
            if (open == 5) {
                throw fault();
            }
            open++;
            next++;
        }

        Map<String, Expr> whole() {
            Map<String, Expr> keys = new HashMap<>();
            for (String key : new String[] {"count", "near", "play"}) {
                eat(key);
                keys.put(key, binary(0));
                eat(";");
            }
            if (!sees("")) {
                throw fault();
            }
            return keys;
        }

        /** Level 0 or, 1 and, 2 not and < =, 3 + -, 4 *, 5 one. */
        private Expr binary(int level) {
            if (level == 5) {
                return one();
            }
            if (level == 2 && sees("not")) {
                enter();
                Expr e = binary(2);
                open--;
                return n -> e.of(n) == 0 ? 1 : 0;
            }
            List<List<String>> signs = Arrays.asList(Arrays.asList("or"), Arrays.asList("and"),
                    Arrays.asList("<", "="), Arrays.asList("+", "-"), Arrays.asList("*"));
            Expr left = binary(level + 1);
            while (signs.get(level).contains(tokens.get(next))) {
                String sign = tokens.get(next);
                next++;
                left = join(sign, left, binary(level + 1));
                if (level == 2) {
                    break;
                }
            }
            return left;
        }

        private static Expr join(String sign, Expr a, Expr b) {
            switch (sign) {
                case "or":
                    return n -> (a.of(n) | b.of(n)) != 0 ? 1 : 0;
                case "and":
                    return n -> a.of(n) == 0 ? 0 : b.of(n) == 0 ? 0 : 1;
                case "<":
                    return n -> a.of(n) < b.of(n) ? 1 : 0;
                case "=":
                    return n -> a.of(n) == b.of(n) ? 1 : 0;
                case "+":
                    return n -> (int) ((long) a.of(n) + b.of(n));
                case "-":
                    return n -> (int) ((long) a.of(n) - b.of(n));
                default:
                    return n -> (int) ((long) a.of(n) * b.of(n));
            }
        }

        private Expr one() {
            String t = tokens.get(next);
            if (t.equals("(")) {
                enter();
                Expr e = binary(0);
                eat(")");
                open--;
                return e;
            }
            if (t.equals("-")) {
                enter();
                Expr e = one();
                open--;
                return n -> 0 - e.of(n);
            }
            if (NAMES.contains(t)) {
                next++;
                return n -> n.get(t);
            }
            if (t.matches("[0-9]{1,4}")) {
                next++;
                return n -> Integer.parseInt(t);
            }
            throw fault();
        }
    }
}
