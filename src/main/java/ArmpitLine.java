/**
 * Ahead by an armpit: men, cameras, crossers, calls on who was ahead, rules in texts, widths,
 * matches and cases. The document that this class keeps to is ../shared/DOC.md; every row is
 * made with the object, so that no call makes an object of its own.
 */
public final class ArmpitLine {
    public static final int NONE = -1, BAD = -2, STATE = -3, FULL = -4;
    public static final long NO = -4611686018427387904L;

    private static final int NOTHING_THERE = -11, OUTSIDE = -12, OTHER_SORT = -13, BELOW_ZERO = -14;
    private static final int NONE_SUCH = -1000, FAULT_BASE = -100, FINE = 0;

    private static final int MOST_MEN = 10, SIDES = 4, PARTS = 4, FOOT = 3;
    private static final int MOST_CAMERAS = 4, MOST_CROSSERS = 6, MOST_CALLS = 24;
    private static final int MOST_MATCHES = 12, MOST_CASES = 40, MARK_SETS = 64;
    private static final int LAST_TICK = 200, MOST_WIDTH = 999;
    private static final int SHEETS = 4, SORTS = 3, MOST_ITEMS = 40, MOST_WIDTHS = 8;
    private static final int MISSING = -1, BYTES = 0, SHORTS = 1;

    private static final int CALL = 0, FLAGGED = 1, LINED = 2, NEAR = 3, WAITED = 4, MACHINE = 5;
    private static final int KINDS = 6;
    private static final int[] KIND_ABOVE = {NONE, CALL, CALL, LINED, FLAGGED, LINED};

    private static final int MOST_BYTES = 160, MOST_TEXTS = 6, MOST_OPEN = 5, MOST_DIGITS = 4;
    private static final int COUNT_KEY = 0, NEAR_KEY = 1, PLAY_KEY = 2, RULE_KEYS = 3;
    private static final String FIRST_RULE = "count not part = 0 ; near width ; play 1 ;";

    /** Names, then keys, each in a column of its own that ends with a blank at least. */
    private static final String WORDS =
            "part  off   speed team  tick  width count near  play  or    and   not   ";
    private static final int WORD_COLUMN = 6, NAMES = 6, ALL_WORDS = 12, WIDTH_NAME = 5;

    /** Kinds of tokens: a sign is its own byte, a key is KEY_TOKEN and its place among the words. */
    private static final int END_TOKEN = -1, BROKEN_TOKEN = -2, NUMBER_TOKEN = -3, NAME_TOKEN = -4;
    private static final int KEY_TOKEN = 256, COUNT_TOKEN = KEY_TOKEN + 6;
    private static final int OR_TOKEN = KEY_TOKEN + 9, AND_TOKEN = KEY_TOKEN + 10, NOT_TOKEN = KEY_TOKEN + 11;

    /** Cells of a text's code: a number is itself, a name is -1 less its place, a doing is below. */
    private static final int DO_OR = -11, DO_AND = -12, DO_NOT = -13, DO_LESS = -14, DO_SAME = -15;
    private static final int DO_PLUS = -16, DO_MINUS = -17, DO_TIMES = -18, DO_NEGATE = -19;

    private final Pitch pitch = new Pitch();
    private final Reader reader = new Reader();
    private final League league = new League();
    private final Cases cases = new Cases();
    private final Sheets sheets = new Sheets();
    private final Squad keptSquad = new Squad();
    private int keptWidth;
    private int keptRule;
    private boolean isImageKept;
    private int widthNow;

    public ArmpitLine() {
        for (int i = 0; i < FIRST_RULE.length(); i++) {
            reader.tape.put(FIRST_RULE.charAt(i));
        }
        reader.readTape();
        pitch.texts.keep(reader);
    }

    // ---- men, cameras, crossers

    public int man(int side, int place, int speed) {
        return pitch.squad.add(side, place, speed);
    }

    public int part(int man, int part, int off) {
        if (!pitch.squad.has(man) || !isPart(part) || !isWithin(off, -199, 199)) {
            return NONE_SUCH;
        }
        int was = pitch.squad.offOf(man, part);
        pitch.squad.off[man * PARTS + part] = off;
        return was;
    }

    public int move(int man, int what, int v) {
        if (!pitch.squad.has(man)) {
            return NONE_SUCH;
        }
        if (what == 0 && isPlace(v)) {
            int was = pitch.squad.place[man];
            pitch.squad.place[man] = v;
            return was;
        }
        if (what == 1 && isSpeed(v)) {
            int was = pitch.squad.speed[man];
            pitch.squad.speed[man] = v;
            return was;
        }
        return NONE_SUCH;
    }

    public long front(int man, int tick, int what) {
        if (!pitch.squad.has(man) || !isTick(tick)) {
            return NO;
        }
        pitch.lookAs(widthNow);
        switch (what) {
            case 0:
                return pitch.frontOf(man, tick);
            case 1:
                return footIfNone(pitch.leadOf(man, tick));
            case 2:
                return pitch.whereIs(man, tick);
            default:
                return NO;
        }
    }

    public int camera(int every, int first, int slant) {
        return pitch.cameras.add(every, first, slant);
    }

    public int frame(int camera, int tick) {
        if (!pitch.cameras.has(camera) || !isTick(tick)) {
            return BAD;
        }
        return pitch.cameras.frameFor(camera, tick);
    }

    public long sees(int camera, int p) {
        if (!pitch.cameras.has(camera) || !isWithin(p, -99999, 99999)) {
            return NO;
        }
        return pitch.cameras.seenAt(camera, p);
    }

    public int crosser(int lean, int spread) {
        return pitch.crossers.add(lean, spread);
    }

    // ---- texts

    public int feed(int n, long bytes) {
        if (!isWithin(n, 1, 8)) {
            return BAD;
        }
        if (reader.tape.size + n > MOST_BYTES) {
            return FULL;
        }
        for (int i = 0; i < n; i++) {
            reader.tape.put((int) (bytes >>> (8 * i)) & 255);
        }
        return reader.tape.size;
    }

    public int text() {
        if (pitch.texts.size >= MOST_TEXTS) {
            return FULL;
        }
        int fault = reader.readTape();
        if (fault != NONE) {
            return FAULT_BASE - fault;
        }
        return pitch.texts.keep(reader);
    }

    public int force(int text) {
        if (!pitch.texts.has(text)) {
            return BAD;
        }
        int was = pitch.texts.rule;
        pitch.texts.rule = text;
        return was;
    }

    public long says(int man, int part, int tick, int key) {
        if (!pitch.squad.has(man) || !isPart(part) || !isTick(tick) || !isWithin(key, 0, RULE_KEYS - 1)) {
            return NO;
        }
        pitch.lookAs(widthNow);
        return pitch.worthOf(man, part, tick, key);
    }

    public int width(int v) {
        if (!isWidth(v)) {
            return BAD;
        }
        int was = widthNow;
        widthNow = v;
        return was;
    }

    // ---- calls

    public int call(int kind, int first, int other, int tick, int by) {
        Squad squad = pitch.squad;
        if (!isWithin(kind, 0, KINDS - 1) || !squad.has(first) || !squad.has(other) || first == other) {
            return BAD;
        }
        if (!isTick(tick) || by < 0 || !pitch.cameras.has(by / 10) || !pitch.crossers.has(by % 10)) {
            return BAD;
        }
        return pitch.calls.add(kind, first, other, tick, by, squad.side[first]);
    }

    public long told(int call, int what) {
        if (!pitch.calls.has(call)) {
            return NO;
        }
        pitch.lookAs(widthNow);
        int kind = pitch.calls.kind[call];
        switch (what) {
            case 0:
                return kind;
            case 1:
                return pitch.marginOf(kind, call);
            case 2:
                return pitch.bandOf(kind, call);
            case 3:
                return pitch.marginOf(kind, call) > pitch.bandOf(kind, call) ? 1 : 0;
            case 4:
                return pitch.isOffside(kind, call) ? 1 : 0;
            case 5:
                return pitch.isOffside(kind, call) != pitch.isOffside(CALL, call) ? 1 : 0;
            case 6:
                return pitch.waysOf(call);
            case 7:
                return pitch.pairsOf(call);
            case 8:
                return pitch.frameErrorOf(call);
            case 9:
                return pitch.turnOf(call);
            default:
                return NO;
        }
    }

    public int offside() {
        pitch.lookAs(widthNow);
        return pitch.offsideAmong(pitch.calls.all());
    }

    // ---- widths, matches

    public int wrong(int sheet, int calls, int i, int what) {
        if (!isSheet(sheet) || !pitch.calls.hasAll(calls) || !isWithin(what, 0, 1)) {
            return BAD;
        }
        int refusal = sheets.refusalAsWidths(sheet);
        if (refusal != FINE) {
            return refusal;
        }
        if (!sheets.has(sheet, i)) {
            return NONE;
        }
        pitch.lookAs(sheets.itemOf(sheet, i));
        pitch.weigh(calls);
        return what == 0 ? pitch.wrongGoals : pitch.wrongNone;
    }

    public int best(int sheet, int calls, int prices) {
        if (!isSheet(sheet) || !pitch.calls.hasAll(calls) || !isWithin(prices, 0, 9999)) {
            return BAD;
        }
        int refusal = sheets.refusalAsWidths(sheet);
        if (refusal != FINE) {
            return refusal;
        }
        int best = sheets.itemOf(sheet, 0);
        int least = 0;
        for (int i = 0; i < sheets.size[sheet]; i++) {
            int tried = sheets.itemOf(sheet, i);
            pitch.lookAs(tried);
            pitch.weigh(calls);
            int cost = prices / 100 * pitch.wrongGoals + prices % 100 * pitch.wrongNone;
            if (i == 0 || cost < least) {
                least = cost;
                best = tried;
            }
        }
        return best;
    }

    public int match(int sides, int goals, int calls) {
        if (sides < 0 || !isSide(sides / 10) || !isSide(sides % 10) || sides / 10 == sides % 10) {
            return BAD;
        }
        if (!isWithin(goals, 0, 99) || !pitch.calls.hasAll(calls)) {
            return BAD;
        }
        return league.add(sides, goals, calls);
    }

    public int table(int width, int side, int what) {
        if (!isWidth(width) || !isSide(side) || !isWithin(what, 0, 3)) {
            return BAD;
        }
        pitch.lookAs(width);
        league.playAll(pitch.offsideAmong(pitch.calls.all()), pitch.calls);
        switch (what) {
            case 0:
                return league.points[side];
            case 1:
                return league.goalsFor[side];
            case 2:
                return league.goalsAgainst[side];
            default:
                return league.rankOf(side);
        }
    }

    public int season(int sheet) {
        if (!isSheet(sheet)) {
            return BAD;
        }
        int refusal = sheets.refusalAsWidths(sheet);
        if (refusal != FINE) {
            return refusal;
        }
        int turns = 0;
        int before = 0;
        for (int i = 0; i < sheets.size[sheet]; i++) {
            pitch.lookAs(sheets.itemOf(sheet, i));
            league.playAll(pitch.offsideAmong(pitch.calls.all()), pitch.calls);
            int ranks = league.allRanks();
            if (i > 0 && ranks != before) {
                turns++;
            }
            before = ranks;
        }
        return turns;
    }

    public int stand(int side, int width, int calls) {
        if (!isSide(side) || !isWidth(width) || !pitch.calls.hasAll(calls)) {
            return BAD;
        }
        pitch.lookAsStanding(width, side, (width - widthNow) / 2);
        return pitch.offsideAmong(pitch.calls.attackedBy(side, calls));
    }

    // ---- cases

    public int shown(int marks, int word) {
        return cases.add(marks, word);
    }

    public int split() {
        return cases.fewestMarks();
    }

    public int image() {
        keptSquad.size = pitch.squad.size;
        keptSquad.takeMenOf(pitch.squad);
        keptWidth = widthNow;
        keptRule = pitch.texts.rule;
        isImageKept = true;
        return widthNow;
    }

    public int back() {
        if (!isImageKept) {
            return STATE;
        }
        pitch.squad.takeMenOf(keptSquad);
        widthNow = keptWidth;
        pitch.texts.rule = keptRule;
        return widthNow;
    }

    public int count(int what) {
        switch (what) {
            case 0:
                return pitch.squad.size;
            case 1:
                return pitch.cameras.size;
            case 2:
                return pitch.crossers.size;
            case 3:
                return pitch.calls.size;
            case 4:
                return league.size;
            case 5:
                return cases.size;
            case 6:
                return pitch.texts.size;
            case 7:
                return reader.tape.size;
            case 8:
                return pitch.texts.rule;
            case 9:
                return widthNow;
            default:
                return BAD;
        }
    }

    // ---- the host

    public int sheet(int sheet, int sort, int n) {
        if (!isSheet(sheet) || !isWithin(sort, MISSING, SORTS - 1)) {
            return BAD;
        }
        if (sort == MISSING) {
            sheets.layOut(sheet, MISSING, 0);
            return 1;
        }
        if (n > MOST_ITEMS) {
            return BAD;
        }
        if (n < 0) {
            return BELOW_ZERO;
        }
        sheets.layOut(sheet, sort, n);
        return 1;
    }

    public int cell(int sheet, int i, int v) {
        if (!isSheet(sheet)) {
            return BAD;
        }
        if (sheets.isMissing(sheet)) {
            return NOTHING_THERE;
        }
        if (!sheets.has(sheet, i)) {
            return OUTSIDE;
        }
        sheets.put(sheet, i, v);
        return 1;
    }

    public int copy(int sheet, int i, int other, int j, int n) {
        if (!isSheet(sheet) || !isSheet(other)) {
            return BAD;
        }
        if (sheets.isMissing(sheet) || sheets.isMissing(other)) {
            return NOTHING_THERE;
        }
        if (sheets.sort[sheet] != sheets.sort[other]) {
            return OTHER_SORT;
        }
        if (!sheets.hasRun(sheet, i, n) || !sheets.hasRun(other, j, n)) {
            return OUTSIDE;
        }
        System.arraycopy(sheets.item, sheet * MOST_ITEMS + i, sheets.item, other * MOST_ITEMS + j, n);
        return n;
    }

    public int men(int sheet, int sort, int from, int n) {
        if (!isSheet(sheet) || !isWithin(sort, 0, SORTS - 1) || !isWithin(n, 0, MOST_MEN)) {
            return BAD;
        }
        // a missing sheet passes for one of any sort
        if (!sheets.isMissing(sheet) && sheets.sort[sheet] != sort) {
            return OTHER_SORT;
        }
        if (sheets.isMissing(sheet)) {
            return NOTHING_THERE;
        }
        int came = 0;
        for (int k = 0; k < n; k++) {
            int at = from + 3 * k;
            if (!sheets.hasRun(sheet, at, 3)) {
                return OUTSIDE;
            }
            int side = sheets.itemOf(sheet, at);
            if (pitch.squad.add(side, sheets.itemOf(sheet, at + 1), sheets.itemOf(sheet, at + 2)) >= 0) {
                came++;
            }
        }
        return came;
    }

    public int taken(int call, int k) {
        if (!isWithin(k, 0, KINDS - 1)) {
            return BAD;
        }
        if (!pitch.calls.has(call)) {
            return NOTHING_THERE;
        }
        return isUnder(pitch.calls.kind[call], k) ? pitch.calls.tick[call] : OTHER_SORT;
    }

    // ---- what numbers may be

    private static boolean isWithin(int v, int least, int most) {
        return least <= v && v <= most;
    }

    private static boolean isSide(int v) {
        return isWithin(v, 0, SIDES - 1);
    }

    private static boolean isPlace(int v) {
        return isWithin(v, 0, 9999);
    }

    private static boolean isSpeed(int v) {
        return isWithin(v, -99, 99);
    }

    private static boolean isPart(int v) {
        return isWithin(v, 0, PARTS - 1);
    }

    private static boolean isTick(int v) {
        return isWithin(v, 0, LAST_TICK);
    }

    private static boolean isWidth(int v) {
        return isWithin(v, 0, MOST_WIDTH);
    }

    private static boolean isSheet(int v) {
        return isWithin(v, 0, SHEETS - 1);
    }

    /** The part that is foremost, where none of a man's parts counts, is his foot. */
    private static int footIfNone(int lead) {
        return lead == NONE ? FOOT : lead;
    }

    /** Whether a kind is another one or stands under it, also by kinds between. */
    private static boolean isUnder(int kind, int above) {
        int k = kind;
        for (int step = 0; step < KINDS && isWithin(k, 0, KINDS - 1); step++) {
            if (k == above) {
                return true;
            }
            k = KIND_ABOVE[k];
        }
        return false;
    }

    /** The men; the offs of a man's parts stand together. */
    private static final class Squad {
        final int[] side = new int[MOST_MEN];
        final int[] place = new int[MOST_MEN];
        final int[] speed = new int[MOST_MEN];
        final int[] off = new int[MOST_MEN * PARTS];
        int size;

        boolean has(int man) {
            return man >= 0 && man < size;
        }

        int add(int newSide, int newPlace, int newSpeed) {
            if (!isSide(newSide) || !isPlace(newPlace) || !isSpeed(newSpeed)) {
                return BAD;
            }
            if (size >= MOST_MEN) {
                return FULL;
            }
            side[size] = newSide;
            place[size] = newPlace;
            speed[size] = newSpeed;
            size++;
            return size - 1;
        }

        int offOf(int man, int part) {
            int at = man * PARTS + part;
            return at >= 0 && at < MOST_MEN * PARTS ? off[at] : 0;
        }

        /** What an image keeps of men, for as many as the other squad has. */
        void takeMenOf(Squad from) {
            for (int m = 0; m < from.size && m < MOST_MEN; m++) {
                place[m] = from.place[m];
                speed[m] = from.speed[m];
                for (int p = m * PARTS; p < m * PARTS + PARTS; p++) {
                    off[p] = from.off[p];
                }
            }
        }
    }

    private static final class Cameras {
        final int[] every = new int[MOST_CAMERAS];
        final int[] first = new int[MOST_CAMERAS];
        final int[] slant = new int[MOST_CAMERAS];
        int size;

        boolean has(int camera) {
            return camera >= 0 && camera < size;
        }

        int add(int newEvery, int newFirst, int newSlant) {
            if (!isWithin(newEvery, 1, 20) || !isWithin(newFirst, 0, 19) || !isWithin(newSlant, -9, 9)) {
                return BAD;
            }
            if (size >= MOST_CAMERAS) {
                return FULL;
            }
            every[size] = newEvery;
            first[size] = newFirst;
            slant[size] = newSlant;
            size++;
            return size - 1;
        }

        int frameFor(int camera, int tick) {
            int start = first[camera];
            int step = every[camera];
            if (tick < start || step < 1) {
                return start;
            }
            return tick - (tick - start) % step;
        }

        int seenAt(int camera, int p) {
            return p + slant[camera] * p / 1000;
        }
    }

    private static final class Crossers {
        final int[] lean = new int[MOST_CROSSERS];
        final int[] spread = new int[MOST_CROSSERS];
        int size;

        boolean has(int crosser) {
            return crosser >= 0 && crosser < size;
        }

        int add(int newLean, int newSpread) {
            if (!isWithin(newLean, -20, 20) || !isWithin(newSpread, 0, 9)) {
                return BAD;
            }
            if (size >= MOST_CROSSERS) {
                return FULL;
            }
            lean[size] = newLean;
            spread[size] = newSpread;
            size++;
            return size - 1;
        }
    }

    /** The calls; the side of the first man is kept along, as no man ever changes his. */
    private static final class Calls {
        final int[] kind = new int[MOST_CALLS];
        final int[] first = new int[MOST_CALLS];
        final int[] other = new int[MOST_CALLS];
        final int[] tick = new int[MOST_CALLS];
        final int[] camera = new int[MOST_CALLS];
        final int[] crosser = new int[MOST_CALLS];
        final int[] attackers = new int[MOST_CALLS];
        int size;

        boolean has(int call) {
            return call >= 0 && call < size;
        }

        int all() {
            return (1 << size) - 1;
        }

        boolean hasAll(int bits) {
            return bits >= 0 && bits <= all();
        }

        int attackedBy(int side, int bits) {
            int those = 0;
            for (int c = 0; c < size; c++) {
                if ((bits >> c & 1) == 1 && attackers[c] == side) {
                    those |= 1 << c;
                }
            }
            return those;
        }

        int add(int newKind, int newFirst, int newOther, int newTick, int by, int side) {
            if (size >= MOST_CALLS) {
                return FULL;
            }
            kind[size] = newKind;
            first[size] = newFirst;
            other[size] = newOther;
            tick[size] = newTick;
            camera[size] = by / 10;
            crosser[size] = by % 10;
            attackers[size] = side;
            size++;
            return size - 1;
        }
    }

    /** The texts as cells to be done from left to right on a stack, and which one is the rule. */
    private static final class Texts {
        final int[] code = new int[MOST_TEXTS * MOST_BYTES];
        final int[] start = new int[MOST_TEXTS * RULE_KEYS];
        final int[] end = new int[MOST_TEXTS * RULE_KEYS];
        final int[] name = new int[NAMES];
        final int[] stack = new int[MOST_BYTES];
        int size;
        int rule;

        boolean has(int text) {
            return text >= 0 && text < size;
        }

        int keep(Reader read) {
            if (size >= MOST_TEXTS) {
                return FULL;
            }
            int base = size * MOST_BYTES;
            for (int k = 0; k < MOST_BYTES; k++) {
                code[base + k] = read.code[k];
            }
            int before = 0;
            for (int key = 0; key < RULE_KEYS; key++) {
                start[size * RULE_KEYS + key] = base + before;
                end[size * RULE_KEYS + key] = base + read.end[key];
                before = read.end[key];
            }
            size++;
            return size - 1;
        }

        boolean mindsWidth(int key) {
            int which = rule * RULE_KEYS + key;
            for (int k = start[which]; k < end[which]; k++) {
                if (code[k] == -1 - WIDTH_NAME) {
                    return true;
                }
            }
            return false;
        }

        void regard(int speed, int team, int tick, int width) {
            name[2] = speed;
            name[3] = team;
            name[4] = tick;
            name[5] = width;
        }

        /** What a key of the rule comes to for a part of the man and the tick last regarded. */
        int worth(int key, int part, int off) {
            name[0] = part;
            name[1] = off;
            int which = rule * RULE_KEYS + key;
            int top = 0;
            for (int k = start[which]; k < end[which]; k++) {
                int cell = code[k];
                if (cell >= -NAMES) {
                    if (top >= MOST_BYTES) {
                        return 0;
                    }
                    stack[top] = cell >= 0 ? cell : name[-1 - cell];
                    top++;
                } else if (cell == DO_NOT || cell == DO_NEGATE) {
                    if (top < 1) {
                        return 0;
                    }
                    stack[top - 1] = ofOne(cell, stack[top - 1]);
                } else {
                    if (top < 2) {
                        return 0;
                    }
                    top--;
                    stack[top - 1] = ofTwo(cell, stack[top - 1], stack[top]);
                }
            }
            return top > 0 ? stack[top - 1] : 0;
        }

        private static int ofOne(int doing, int a) {
            if (doing == DO_NEGATE) {
                return -a;
            }
            return a == 0 ? 1 : 0;
        }

        private static int ofTwo(int doing, int a, int b) {
            switch (doing) {
                case DO_OR:
                    return a != 0 || b != 0 ? 1 : 0;
                case DO_AND:
                    return a != 0 && b != 0 ? 1 : 0;
                case DO_LESS:
                    return a < b ? 1 : 0;
                case DO_SAME:
                    return a == b ? 1 : 0;
                case DO_PLUS:
                    return a + b;
                case DO_MINUS:
                    return a - b;
                default:
                    return a * b;
            }
        }
    }

    /** All that calls are made of, and how they fall as looked at: as if some number were WIDTH. */
    private static final class Pitch {
        final Squad squad = new Squad();
        final Cameras cameras = new Cameras();
        final Crossers crossers = new Crossers();
        final Texts texts = new Texts();
        final Calls calls = new Calls();
        int asWidth;
        int fallenSide = NONE;
        int fallenBy;
        int wrongGoals;
        int wrongNone;

        void lookAs(int width) {
            lookAsStanding(width, NONE, 0);
        }

        /** As if the men of a side stood so many hairs less far, too. */
        void lookAsStanding(int width, int side, int less) {
            asWidth = width;
            fallenSide = side;
            fallenBy = less;
        }

        int whereIs(int man, int tick) {
            int fallen = squad.side[man] == fallenSide ? fallenBy : 0;
            return squad.place[man] - fallen + tick * squad.speed[man];
        }

        /** The foremost of the parts that count; NONE, if none does. */
        int leadOf(int man, int tick) {
            texts.regard(squad.speed[man], squad.side[man], tick, asWidth);
            int lead = NONE;
            for (int part = 0; part < PARTS; part++) {
                int off = squad.offOf(man, part);
                boolean isAhead = lead == NONE || off > squad.offOf(man, lead);
                if (isAhead && texts.worth(COUNT_KEY, part, off) != 0) {
                    lead = part;
                }
            }
            return lead;
        }

        int frontOf(int man, int tick) {
            int lead = leadOf(man, tick);
            int ahead = lead == NONE ? 0 : squad.offOf(man, lead);
            return whereIs(man, tick) + ahead;
        }

        int worthOf(int man, int part, int tick, int key) {
            texts.regard(squad.speed[man], squad.side[man], tick, asWidth);
            return texts.worth(key, part, squad.offOf(man, part));
        }

        /** What a key comes to for the part of a man that is foremost. */
        int ruledOn(int man, int tick, int key) {
            return worthOf(man, footIfNone(leadOf(man, tick)), tick, key);
        }

        int trueMargin(int call, int tick) {
            return frontOf(calls.first[call], tick) - frontOf(calls.other[call], tick);
        }

        int leanOn(int call, int man) {
            int lean = crossers.lean[calls.crosser[call]];
            return squad.speed[man] > 0 ? lean : -lean;
        }

        /** The margin that a call would have, if it were of a kind. */
        int marginOf(int kind, int call) {
            int first = calls.first[call];
            int other = calls.other[call];
            int tick = calls.tick[call];
            if (!isUnder(kind, LINED)) {
                int margin = frontOf(first, tick) - frontOf(other, tick);
                if (isUnder(kind, FLAGGED)) {
                    margin += 2 * (squad.speed[first] - squad.speed[other]);
                }
                return kind == WAITED ? margin - 10 : margin;
            }
            int camera = calls.camera[call];
            int frame = cameras.frameFor(camera, tick);
            int margin = cameras.seenAt(camera, frontOf(first, frame)) - cameras.seenAt(camera, frontOf(other, frame));
            if (kind == MACHINE) {
                return margin - 2;
            }
            return margin + leanOn(call, first) - leanOn(call, other);
        }

        int bandOf(int kind, int call) {
            switch (kind) {
                case LINED:
                case MACHINE:
                    return 1;
                case NEAR:
                    int near = ruledOn(calls.first[call], calls.tick[call], NEAR_KEY);
                    return 1 + Math.max(0, Math.min(MOST_WIDTH, near));
                case WAITED:
                    return 3;
                default:
                    return 0;
            }
        }

        boolean isOffside(int kind, int call) {
            boolean isAhead = marginOf(kind, call) > bandOf(kind, call);
            return isAhead && ruledOn(calls.first[call], calls.tick[call], PLAY_KEY) != 0;
        }

        int offsideAmong(int bits) {
            int those = 0;
            for (int c = 0; c < calls.size; c++) {
                if ((bits >> c & 1) == 1 && isOffside(calls.kind[c], c)) {
                    those |= 1 << c;
                }
            }
            return those;
        }

        /** Counts the wrong goals and the wrong nones among calls. */
        void weigh(int bits) {
            wrongGoals = 0;
            wrongNone = 0;
            for (int c = 0; c < calls.size; c++) {
                if ((bits >> c & 1) == 1) {
                    boolean isCalled = isOffside(calls.kind[c], c);
                    boolean isTrue = isOffside(CALL, c);
                    wrongGoals += isTrue && !isCalled ? 1 : 0;
                    wrongNone += isCalled && !isTrue ? 1 : 0;
                }
            }
        }

        /** How far crosses may be beside; none are put but by lines that a man draws. */
        int spreadOf(int call) {
            int kind = calls.kind[call];
            return isUnder(kind, LINED) && kind != MACHINE ? crossers.spread[calls.crosser[call]] : 0;
        }

        int pairsOf(int call) {
            int crosses = 2 * spreadOf(call) + 1;
            return crosses * crosses;
        }

        int waysOf(int call) {
            int kind = calls.kind[call];
            int beyond = marginOf(kind, call) - bandOf(kind, call);
            int spread = spreadOf(call);
            int ways = 0;
            for (int a = -spread; a <= spread; a++) {
                for (int b = -spread; b <= spread; b++) {
                    ways += beyond + a - b > 0 ? 1 : 0;
                }
            }
            return ways;
        }

        int frameErrorOf(int call) {
            int tick = calls.tick[call];
            int frame = cameras.frameFor(calls.camera[call], tick);
            return trueMargin(call, frame) - trueMargin(call, tick);
        }

        /** The least width by which a call is not ahead; what no width changes is looked at once. */
        int turnOf(int call) {
            int kind = calls.kind[call];
            boolean isMarginMoved = texts.mindsWidth(COUNT_KEY);
            boolean isBandMoved = kind == NEAR && texts.mindsWidth(NEAR_KEY);
            int last = isMarginMoved || isBandMoved ? MOST_WIDTH : 0;
            int margin = 0;
            for (int w = 0; w <= last; w++) {
                lookAs(w);
                if (w == 0 || isMarginMoved) {
                    margin = marginOf(kind, call);
                }
                if (margin <= bandOf(kind, call)) {
                    return w;
                }
            }
            return NONE;
        }
    }

    /** The bytes that were fed, and the tokens that they make. */
    private static final class Tape {
        final int[] fed = new int[MOST_BYTES];
        int size;
        final int[] kind = new int[MOST_BYTES + 1];
        final int[] value = new int[MOST_BYTES + 1];
        final int[] start = new int[MOST_BYTES + 1];
        int tokens;

        void put(int b) {
            if (size < MOST_BYTES) {
                fed[size] = b;
                size++;
            }
        }

        int byteAt(int i) {
            return i >= 0 && i < size ? fed[i] : NONE;
        }

        /** Makes the tokens of all bytes, an end behind them. */
        void cut() {
            tokens = 0;
            int at = 0;
            for (int n = 0; n < MOST_BYTES && at < size; n++) {
                int b = byteAt(at);
                if (b == 32 || b == 10) {
                    at++;
                } else if (isLetter(b)) {
                    at = cutWord(at);
                } else if (isDigit(b)) {
                    at = cutNumber(at);
                } else {
                    note(isSign(b) ? b : BROKEN_TOKEN, 0, at);
                    at++;
                }
            }
            note(END_TOKEN, 0, size);
        }

        private void note(int newKind, int newValue, int newStart) {
            if (tokens <= MOST_BYTES) {
                kind[tokens] = newKind;
                value[tokens] = newValue;
                start[tokens] = newStart;
                tokens++;
            }
        }

        private int cutWord(int from) {
            int to = from + 1;
            while (to < size && isLetter(fed[to])) {
                to++;
            }
            int word = wordAmong(from, to - from);
            if (word == NONE) {
                note(BROKEN_TOKEN, 0, from);
            } else if (word < NAMES) {
                note(NAME_TOKEN, -1 - word, from);
            } else {
                note(KEY_TOKEN + word, 0, from);
            }
            return to;
        }

        private int wordAmong(int from, int length) {
            if (length >= WORD_COLUMN) {
                return NONE;
            }
            for (int w = 0; w < ALL_WORDS; w++) {
                int like = 0;
                while (like < length && WORDS.charAt(w * WORD_COLUMN + like) == byteAt(from + like)) {
                    like++;
                }
                if (like == length && WORDS.charAt(w * WORD_COLUMN + length) == ' ') {
                    return w;
                }
            }
            return NONE;
        }

        private int cutNumber(int from) {
            int to = from;
            int number = 0;
            while (to < size && isDigit(fed[to])) {
                number = number * 10 + fed[to] - 48;
                to++;
            }
            boolean isTooLong = to - from > MOST_DIGITS;
            note(isTooLong ? BROKEN_TOKEN : NUMBER_TOKEN, number, from);
            return to;
        }

        private static boolean isLetter(int b) {
            return isWithin(b, 97, 122);
        }

        private static boolean isDigit(int b) {
            return isWithin(b, 48, 57);
        }

        private static boolean isSign(int b) {
            return b == '(' || b == ')' || b == ';' || b == '+' || b == '-' || b == '*' || b == '<' || b == '=';
        }
    }

    /**
     * Reads the tape as a text. Each reading says whether it went well; if not, the token that
     * could not stand there is the one that the reader is at. How many of ( not - are open goes
     * along as an argument, and the reader refuses one more than there may be.
     */
    private static final class Reader {
        final Tape tape = new Tape();
        final int[] code = new int[MOST_BYTES];
        final int[] end = new int[RULE_KEYS];
        int used;
        int at;

        /** Empties the tape: NONE, or the place of the fault. */
        int readTape() {
            tape.cut();
            at = 0;
            used = 0;
            boolean isFine = readKeys();
            int fault = isFine || at >= tape.tokens ? NONE : tape.start[at];
            tape.size = 0;
            return fault;
        }

        private boolean readKeys() {
            for (int key = 0; key < RULE_KEYS; key++) {
                if (!pass(COUNT_TOKEN + key) || !readOr(0) || !pass(';')) {
                    return false;
                }
                end[key] = used;
            }
            return kindNow() == END_TOKEN;
        }

        private int kindNow() {
            return at < tape.tokens ? tape.kind[at] : END_TOKEN;
        }

        private boolean pass(int kind) {
            if (kindNow() != kind) {
                return false;
            }
            at++;
            return true;
        }

        private void emit(int cell) {
            if (used < MOST_BYTES) {
                code[used] = cell;
                used++;
            }
        }

        private boolean readOr(int open) {
            if (!readAnd(open)) {
                return false;
            }
            for (int n = 0; n < MOST_BYTES && pass(OR_TOKEN); n++) {
                if (!readAnd(open)) {
                    return false;
                }
                emit(DO_OR);
            }
            return true;
        }

        private boolean readAnd(int open) {
            if (!readNot(open)) {
                return false;
            }
            for (int n = 0; n < MOST_BYTES && pass(AND_TOKEN); n++) {
                if (!readNot(open)) {
                    return false;
                }
                emit(DO_AND);
            }
            return true;
        }

        private boolean readNot(int open) {
            if (kindNow() == NOT_TOKEN) {
                if (open >= MOST_OPEN) {
                    return false;
                }
                at++;
                if (!readNot(open + 1)) {
                    return false;
                }
                emit(DO_NOT);
                return true;
            }
            if (!readSum(open)) {
                return false;
            }
            int sign = kindNow();
            if (sign == '<' || sign == '=') {
                at++;
                if (!readSum(open)) {
                    return false;
                }
                emit(sign == '<' ? DO_LESS : DO_SAME);
            }
            return true;
        }

        private boolean readSum(int open) {
            if (!readTerm(open)) {
                return false;
            }
            int sign = kindNow();
            for (int n = 0; n < MOST_BYTES && (sign == '+' || sign == '-'); n++) {
                at++;
                if (!readTerm(open)) {
                    return false;
                }
                emit(sign == '+' ? DO_PLUS : DO_MINUS);
                sign = kindNow();
            }
            return true;
        }

        private boolean readTerm(int open) {
            if (!readOne(open)) {
                return false;
            }
            for (int n = 0; n < MOST_BYTES && pass('*'); n++) {
                if (!readOne(open)) {
                    return false;
                }
                emit(DO_TIMES);
            }
            return true;
        }

        private boolean readOne(int open) {
            int kind = kindNow();
            if (kind == NUMBER_TOKEN || kind == NAME_TOKEN) {
                emit(tape.value[at]);
                at++;
                return true;
            }
            if (kind != '(' && kind != '-' || open >= MOST_OPEN) {
                return false;
            }
            at++;
            if (kind == '(') {
                return readOr(open + 1) && pass(')');
            }
            if (!readOne(open + 1)) {
                return false;
            }
            emit(DO_NEGATE);
            return true;
        }
    }

    /** Rows of numbers, each with room for as many items as a sheet may have. */
    private static final class Sheets {
        final int[] sort = {MISSING, MISSING, MISSING, MISSING};
        final int[] size = new int[SHEETS];
        final int[] item = new int[SHEETS * MOST_ITEMS];

        boolean isMissing(int sheet) {
            return sort[sheet] == MISSING;
        }

        boolean has(int sheet, int i) {
            return i >= 0 && i < size[sheet];
        }

        /** Whether n items from one on lie in a sheet (none may lie at its end, too). */
        boolean hasRun(int sheet, int i, int n) {
            return i >= 0 && n >= 0 && i <= size[sheet] && n <= size[sheet] - i;
        }

        int itemOf(int sheet, int i) {
            return has(sheet, i) ? item[sheet * MOST_ITEMS + i] : 0;
        }

        void layOut(int sheet, int newSort, int n) {
            sort[sheet] = newSort;
            size[sheet] = n;
            for (int i = 0; i < MOST_ITEMS; i++) {
                item[sheet * MOST_ITEMS + i] = 0;
            }
        }

        void put(int sheet, int i, int v) {
            int fitting = v;
            if (sort[sheet] == BYTES) {
                fitting = (byte) v;
            } else if (sort[sheet] == SHORTS) {
                fitting = (short) v;
            }
            item[sheet * MOST_ITEMS + i] = fitting;
        }

        /** FINE, or why a sheet can't be taken for widths. */
        int refusalAsWidths(int sheet) {
            if (isMissing(sheet)) {
                return NOTHING_THERE;
            }
            if (!isWithin(size[sheet], 1, MOST_WIDTHS)) {
                return BAD;
            }
            for (int i = 0; i < size[sheet]; i++) {
                if (!isWidth(itemOf(sheet, i))) {
                    return BAD;
                }
            }
            return FINE;
        }
    }

    /** The matches, and the table that was made of them last. */
    private static final class League {
        final int[] home = new int[MOST_MATCHES];
        final int[] guest = new int[MOST_MATCHES];
        final int[] goals = new int[MOST_MATCHES];
        final int[] calls = new int[MOST_MATCHES];
        int size;
        final int[] points = new int[SIDES];
        final int[] goalsFor = new int[SIDES];
        final int[] goalsAgainst = new int[SIDES];

        int add(int sides, int newGoals, int newCalls) {
            if (size >= MOST_MATCHES) {
                return FULL;
            }
            home[size] = sides / 10;
            guest[size] = sides % 10;
            goals[size] = newGoals;
            calls[size] = newCalls;
            size++;
            return size - 1;
        }

        void playAll(int offside, Calls made) {
            for (int s = 0; s < SIDES; s++) {
                points[s] = 0;
                goalsFor[s] = 0;
                goalsAgainst[s] = 0;
            }
            for (int m = 0; m < size; m++) {
                int goalCalls = calls[m] & ~offside;
                int homeGoals = goals[m] / 10 + Integer.bitCount(made.attackedBy(home[m], goalCalls));
                int guestGoals = goals[m] % 10 + Integer.bitCount(made.attackedBy(guest[m], goalCalls));
                score(home[m], homeGoals, guestGoals);
                score(guest[m], guestGoals, homeGoals);
            }
        }

        private void score(int side, int got, int let) {
            goalsFor[side] += got;
            goalsAgainst[side] += let;
            if (got > let) {
                points[side] += 3;
            } else if (got == let) {
                points[side] += 1;
            }
        }

        int rankOf(int side) {
            int rank = 0;
            for (int s = 0; s < SIDES; s++) {
                rank += isAbove(s, side) ? 1 : 0;
            }
            return rank;
        }

        private boolean isAbove(int a, int b) {
            if (points[a] != points[b]) {
                return points[a] > points[b];
            }
            int ofA = goalsFor[a] - goalsAgainst[a];
            int ofB = goalsFor[b] - goalsAgainst[b];
            return ofA != ofB ? ofA > ofB : goalsFor[a] > goalsFor[b];
        }

        /** The ranks of all sides in one number, so that two tables are compared at once. */
        int allRanks() {
            int ranks = 0;
            for (int s = 0; s < SIDES; s++) {
                ranks = ranks * SIDES + rankOf(s);
            }
            return ranks;
        }
    }

    private static final class Cases {
        final int[] marks = new int[MOST_CASES];
        final int[] word = new int[MOST_CASES];
        final int[] wordBy = new int[MARK_SETS];
        int size;

        int add(int newMarks, int newWord) {
            if (!isWithin(newMarks, 0, MARK_SETS - 1) || !isWithin(newWord, 0, 3)) {
                return BAD;
            }
            if (size >= MOST_CASES) {
                return FULL;
            }
            marks[size] = newMarks;
            word[size] = newWord;
            size++;
            return size - 1;
        }

        int fewestMarks() {
            int best = NONE;
            for (int set = 0; set < MARK_SETS; set++) {
                boolean isFewer = best == NONE || Integer.bitCount(set) < Integer.bitCount(best);
                if (isFewer && isSplitBy(set)) {
                    best = set;
                }
            }
            return best;
        }

        private boolean isSplitBy(int set) {
            for (int k = 0; k < MARK_SETS; k++) {
                wordBy[k] = NONE;
            }
            for (int c = 0; c < size; c++) {
                int like = marks[c] & set;
                if (wordBy[like] != NONE && wordBy[like] != word[c]) {
                    return false;
                }
                wordBy[like] = word[c];
            }
            return true;
        }
    }
}
