import java.util.Arrays;

/**
 * A felt house that moves: its parts under a sky, its beasts and their loads, its camps and their
 * grass, a text that tells it, and sheets of numbers beside it. README.md says how it is used.
 */
public final class FeltHouse {
    // A finding is answered as FIRST_FINDING less its place in this list. Place 4 (STATE) is free:
    // no act of the document answers it, but status() counts it.
    private static final int BEYOND = 0;
    private static final int FULL = 1;
    private static final int KIND = 2;
    private static final int NONE = 3;
    private static final int MISSING = 5;
    private static final int SIZE = 6;
    private static final int FINDINGS = 7;
    private static final int FIRST_FINDING = -1000000001;

    private static final int PARTS = 20;
    private static final int SIDES = 8;
    private static final int ACROSS = 4;
    private static final int POLED_SIDES = 3;

    private static final int PART = 0;
    private static final int POLE = 1;
    private static final int BAND = 2;
    private static final int STONE = 3;
    private static final int FELT = 4;
    private static final int FLAP = 5;
    private static final int ROPE = 6;
    private static final int KINDS = 7;
    private static final int[] KIND_ABOVE = {PART, PART, PART, PART, PART, FELT, BAND};
    private static final int KIND_LEVELS = 3;

    private static final int STRENGTH = 2;
    private static final int WEIGHT = 3;
    private static final int WEAR = 4;
    private static final int STRENGTH_MOST = 999;
    private static final int WEIGHT_MOST = 99;
    private static final int WEAR_MOST = 99;

    private static final int WIND = 0;
    private static final int FROM = 1;
    private static final int WET = 2;
    private static final int SNOW = 3;
    private static final int COLD = 4;
    private static final int SKY = 5;
    private static final int[] SKY_MOST = {99, 7, 9, 99, 60};
    private static final int COLD_AT_FIRST = 20;
    private static final int WIND_MOST = 99;
    private static final int DRAW_MOST = 99;
    private static final int DRAW_AT_FIRST = 20;
    private static final int AGE_MOST = 50;
    private static final int NOBODY = -1;

    private static final int BEASTS = 6;
    private static final int CAP_MOST = 999;
    private static final int LOAD_MOST = 10;

    private static final int CAMPS = 6;
    private static final int MONTHS = 12;
    private static final int FAR_MOST = 99;
    private static final int GRASS_MOST = 999;
    private static final int YEAR_MOST = 24;
    private static final int STAYS = 3;
    private static final int HERD = 0;
    private static final int ROAD = 1;
    private static final int PACK = 2;
    private static final int HERDING = 3;
    private static final int[] HERDING_MOST = {999, 99, 999};
    private static final int HERD_AT_FIRST = 100;
    private static final int ROAD_AT_FIRST = 2;
    private static final int PACK_AT_FIRST = 5;

    private static final int TAPE_MOST = 120;
    private static final int FEED_MOST = 4;
    private static final int SHEETS = 4;
    private static final int SHEET_MOST = 40;

    private final Stock now;
    private final Stock kept;
    private final Stock draft;
    private boolean isKept;
    private final Frame frame;
    private final Loads loads;
    private final Plan plan;
    private final Text text;
    private final Sheet[] sheets;
    private final int[] found;

    public FeltHouse() {
        now = new Stock();
        kept = new Stock();
        draft = new Stock();
        isKept = false;
        frame = new Frame(now);
        loads = new Loads(now);
        plan = new Plan(now);
        text = new Text();
        sheets = new Sheet[SHEETS];
        for (int s = 0; s < SHEETS; s++) {
            sheets[s] = new Sheet();
        }
        found = new int[FINDINGS];
    }

    // ---- parts, the sky

    public int part(int kind, int side, int strength, int weight) {
        if (!within(kind, 0, KINDS - 1) || !within(side, 0, SIDES - 1)
                || !within(strength, 1, STRENGTH_MOST) || !within(weight, 0, WEIGHT_MOST)) {
            return finding(BEYOND);
        }
        if (now.partCount >= PARTS) {
            return finding(FULL);
        }
        return now.addPart(kind, side, strength, weight);
    }

    public int of(int part, int what) {
        if (!now.hasPart(part) || !within(what, 0, 9)) {
            return finding(BEYOND);
        }
        frame.asItIs();
        switch (what) {
            case 0: return now.kinds[part];
            case 1: return now.sides[part];
            case STRENGTH: return now.strengths[part];
            case WEIGHT: return now.weights[part];
            case WEAR: return now.wears[part];
            case 5: return now.isThere(part) ? 1 : 0;
            case 6: return frame.good(part);
            case 7: return frame.pushes(part);
            case 8: return frame.holds(part);
            default: return frame.warms(part);
        }
    }

    public int set(int part, int what, int v) {
        if (!now.hasPart(part)) {
            return finding(BEYOND);
        }
        if (what == STRENGTH && within(v, 1, STRENGTH_MOST)) {
            return put(now.strengths, part, v);
        }
        if (what == WEIGHT && within(v, 0, WEIGHT_MOST)) {
            return put(now.weights, part, v);
        }
        if (what == WEAR && within(v, 0, WEAR_MOST)) {
            return put(now.wears, part, v);
        }
        return finding(BEYOND);
    }

    public int want(int part, boolean is) {
        if (!now.hasPart(part)) {
            return finding(BEYOND);
        }
        if (now.isThere(part) == is) {
            return 0;
        }
        now.there ^= 1 << part;
        return 1;
    }

    public int as(int part, int kind) {
        if (!now.hasPart(part) || !within(kind, 0, KINDS - 1)) {
            return finding(BEYOND);
        }
        if (!isOfKind(now.kinds[part], kind)) {
            return finding(KIND);
        }
        frame.asItIs();
        return frame.good(part);
    }

    public int sky(int what, int v) {
        if (!within(what, 0, SKY - 1) || !within(v, 0, SKY_MOST[what])) {
            return finding(BEYOND);
        }
        return put(now.sky, what, v);
    }

    public int draw(int v) {
        if (!within(v, 0, DRAW_MOST)) {
            return finding(BEYOND);
        }
        int was = now.draw;
        now.draw = v;
        return was;
    }

    public int age(int n) {
        if (!within(n, 1, AGE_MOST)) {
            return finding(BEYOND);
        }
        int wanting = 0;
        for (int i = 0; i < n; i++) {
            wanting += now.growOlder();
        }
        return wanting;
    }

    // ---- standing

    public int side(int side, int what) {
        if (!within(side, 0, SIDES - 1) || !within(what, 0, 2)) {
            return finding(BEYOND);
        }
        frame.asItIs();
        frame.gather();
        switch (what) {
            case 0: return frame.strain(side);
            case 1: return frame.hold(side);
            default: return frame.spare(side);
        }
    }

    public int stands() {
        frame.asItIs();
        return frame.isStanding() ? 1 : 0;
    }

    public int first() {
        frame.asItIs();
        frame.gather();
        return frame.weakestSide();
    }

    public int gust() {
        frame.asItIs();
        for (int wind = 0; wind <= WIND_MOST; wind++) {
            frame.wind = wind;
            if (!frame.isStanding()) {
                return wind;
            }
        }
        return finding(NONE);
    }

    public int canWant() {
        frame.asItIs();
        int set = 0;
        for (int p = 0; p < now.partCount; p++) {
            frame.here = now.there & ~(1 << p);
            if (now.isThere(p) && frame.isStanding()) {
                set |= 1 << p;
            }
        }
        return set;
    }

    public int span(int what) {
        if (!within(what, 0, 1)) {
            return finding(BEYOND);
        }
        frame.asItIs();
        for (int i = 0; i <= DRAW_MOST; i++) {
            frame.draw = what == 0 ? i : DRAW_MOST - i;
            if (frame.isStanding()) {
                return frame.draw;
            }
        }
        return finding(NONE);
    }

    public int worst() {
        frame.asItIs();
        int worstFrom = 0;
        int leastSpare = 0;
        for (int from = 0; from < SIDES; from++) {
            frame.from = from;
            frame.gather();
            int spare = frame.spare(frame.weakestSide());
            if (from == 0 || spare < leastSpare) {
                leastSpare = spare;
                worstFrom = from;
            }
        }
        return worstFrom;
    }

    public int warmth(int what) {
        if (!within(what, 0, 1)) {
            return finding(BEYOND);
        }
        frame.asItIs();
        return what == 0 ? frame.warmthOfAll() : frame.fuel();
    }

    public int idle() {
        frame.asItIs();
        int fuel = frame.fuel();
        int set = 0;
        for (int p = 0; p < now.partCount; p++) {
            frame.here = now.there & ~(1 << p);
            if (now.isThere(p) && frame.fuel() == fuel) {
                set |= 1 << p;
            }
        }
        return set;
    }

    // ---- beasts

    public int beast(int cap) {
        if (!within(cap, 1, CAP_MOST)) {
            return finding(BEYOND);
        }
        if (now.beastCount >= BEASTS) {
            return finding(FULL);
        }
        return now.addBeast(cap);
    }

    public int cap(int beast) {
        if (!within(beast, 0, now.beastCount - 1)) {
            return finding(BEYOND);
        }
        return now.caps[beast];
    }

    public int beasts(int set) {
        if (!now.areAllThere(set)) {
            return finding(BEYOND);
        }
        if (Integer.bitCount(set) > LOAD_MOST) {
            return finding(SIZE);
        }
        loads.lay(set);
        int least = loads.leastBeasts();
        return least > now.beastCount ? finding(NONE) : least;
    }

    public int even(int set, int what) {
        if (!now.areAllThere(set) || !within(what, 0, 1)) {
            return finding(BEYOND);
        }
        if (Integer.bitCount(set) > LOAD_MOST) {
            return finding(SIZE);
        }
        loads.lay(set);
        loads.balance();
        return what == 0 ? loads.difference : loads.left;
    }

    // ---- camps

    public int camp(int far) {
        if (!within(far, 0, FAR_MOST)) {
            return finding(BEYOND);
        }
        if (now.campCount >= CAMPS) {
            return finding(FULL);
        }
        return now.addCamp(far);
    }

    public int grass(int camp, int month, int v) {
        if (!now.hasCamp(camp) || !within(month, 0, MONTHS - 1) || !within(v, 0, GRASS_MOST)) {
            return finding(BEYOND);
        }
        return put(now.grass, camp * MONTHS + month, v);
    }

    public int campOf(int camp, int what) {
        if (!now.hasCamp(camp) || !within(what, 0, MONTHS)) {
            return finding(BEYOND);
        }
        return what == MONTHS ? now.fars[camp] : now.grass[camp * MONTHS + what];
    }

    public int herd(int what, int v) {
        if (!within(what, 0, HERDING - 1) || !within(v, 0, HERDING_MOST[what])) {
            return finding(BEYOND);
        }
        return put(now.herding, what, v);
    }

    public int year(int month, int n, int what) {
        if (!within(month, 0, MONTHS - 1) || !within(n, 1, YEAR_MOST) || !within(what, -1, n - 1)) {
            return finding(BEYOND);
        }
        if (now.campCount == 0) {
            return finding(NONE);
        }
        plan.make(month, n);
        return what < 0 ? plan.cost : plan.row[what];
    }

    public int moves(int month, int n) {
        if (!within(month, 0, MONTHS - 1) || !within(n, 1, YEAR_MOST)) {
            return finding(BEYOND);
        }
        if (now.campCount == 0) {
            return finding(NONE);
        }
        plan.make(month, n);
        return plan.movesIn(n);
    }

    // ---- the text

    public int feed(int bytes, int n) {
        if (!within(n, 1, FEED_MOST)) {
            return finding(BEYOND);
        }
        if (text.size + n > TAPE_MOST) {
            return finding(FULL);
        }
        for (int i = n - 1; i >= 0; i--) {
            text.add((bytes >>> (8 * i)) & 255);
        }
        return text.size;
    }

    public int wipe() {
        int had = text.size;
        text.size = 0;
        return had;
    }

    public int house() {
        // The items come to a draft first, so that a fault leaves what there is as it was.
        draft.takeOver(now);
        int answer = text.tellTo(draft);
        if (answer >= 0) {
            now.takeOver(draft);
        }
        text.size = 0;
        return answer;
    }

    // ---- sheets

    public int sheet(int s, int bits, int n) {
        if (!within(s, 0, SHEETS - 1) || !isWidth(bits)) {
            return finding(BEYOND);
        }
        if (n < 0) {
            return finding(SIZE);
        }
        if (n > SHEET_MOST) {
            return finding(BEYOND);
        }
        sheets[s].lay(bits, n);
        return sheets[s].size;
    }

    public long write(int s, int i, long v) {
        int trouble = sheetTrouble(s);
        if (trouble >= 0) {
            return finding(trouble);
        }
        if (!within(i, 0, sheets[s].size - 1)) {
            return finding(BEYOND);
        }
        long was = sheets[s].numbers[i];
        sheets[s].numbers[i] = sheets[s].narrowed(v);
        return was;
    }

    public int copy(int s, int from, int t, int to, int n) {
        if (!within(s, 0, SHEETS - 1) || !within(t, 0, SHEETS - 1)) {
            return finding(BEYOND);
        }
        Sheet source = sheets[s];
        Sheet target = sheets[t];
        if (source.isMissing() || target.isMissing()) {
            return finding(MISSING);
        }
        if (source.bits != target.bits) {
            return finding(KIND);
        }
        if (!source.hasRange(from, n) || !target.hasRange(to, n)) {
            return finding(BEYOND);
        }
        System.arraycopy(source.numbers, from, target.numbers, to, n);
        return n;
    }

    public int lays(int s, int camp) {
        int trouble = sheetTrouble(s);
        if (trouble >= 0) {
            return finding(trouble);
        }
        if (!now.hasCamp(camp)) {
            return finding(BEYOND);
        }
        Sheet sheet = sheets[s];
        int came = 0;
        for (int month = 0; month < MONTHS && month < sheet.size; month++) {
            long v = sheet.numbers[month];
            if (v >= 0 && v <= GRASS_MOST) {
                now.grass[camp * MONTHS + month] = (int) v;
                came++;
            }
        }
        return came;
    }

    public int costs(int s, int month) {
        int trouble = sheetTrouble(s);
        if (trouble >= 0) {
            return finding(trouble);
        }
        if (!within(month, 0, MONTHS - 1)) {
            return finding(BEYOND);
        }
        Sheet sheet = sheets[s];
        for (int i = 0; i < sheet.size; i++) {
            if (sheet.numbers[i] < 0 || sheet.numbers[i] >= now.campCount) {
                return finding(KIND);
            }
        }
        return now.costOfRow(sheet, month);
    }

    public int read(int s) {
        int trouble = sheetTrouble(s);
        if (trouble >= 0) {
            return finding(trouble);
        }
        Sheet sheet = sheets[s];
        frame.asItIs();
        frame.gather();
        for (int i = 0; i < sheet.size; i++) {
            if (i >= SIDES || sheet.numbers[i] != frame.spare(i)) {
                return 1 + i;
            }
        }
        return 0;
    }

    // ---- images

    public int image() {
        kept.takeOver(now);
        isKept = true;
        return 1;
    }

    public int undo() {
        if (!isKept) {
            return finding(NONE);
        }
        now.takeOver(kept);
        return now.partCount;
    }

    public int tear() {
        int was = isKept ? 1 : 0;
        isKept = false;
        return was;
    }

    public int count(int what) {
        switch (what) {
            case 0: return now.partCount;
            case 1: return Integer.bitCount(now.there);
            case 2: return now.beastCount;
            case 3: return now.campCount;
            case 4: return text.size;
            case 5: return now.weightThere();
            case 6: return now.draw;
            default: return finding(BEYOND);
        }
    }

    public int status(int which) {
        if (!within(which, -1, FINDINGS - 1)) {
            return finding(BEYOND);
        }
        if (which >= 0) {
            return found[which];
        }
        int all = 0;
        for (int i = 0; i < FINDINGS; i++) {
            all += found[i];
        }
        return all;
    }

    // ---- what the acts share

    private int finding(int which) {
        found[which]++;
        return FIRST_FINDING - which;
    }

    private static boolean within(int v, int least, int most) {
        return v >= least && v <= most;
    }

    private static int put(int[] row, int i, int v) {
        int was = row[i];
        row[i] = v;
        return was;
    }

    private static boolean isOfKind(int kind, int asked) {
        int above = kind;
        for (int level = 0; level < KIND_LEVELS; level++) {
            if (above == asked) {
                return true;
            }
            above = KIND_ABOVE[above];
        }
        return false;
    }

    private static boolean isWidth(int bits) {
        return bits == 0 || bits == 8 || bits == 16 || bits == 64;
    }

    /** What a sheet is asked for first: the finding that it gives, or -1. */
    private int sheetTrouble(int s) {
        if (!within(s, 0, SHEETS - 1)) {
            return BEYOND;
        }
        return sheets[s].isMissing() ? MISSING : -1;
    }

    /** All that an image keeps: parts, sky, draw, beasts, camps and herding. */
    private static final class Stock {
        int partCount;
        final int[] kinds = new int[PARTS];
        final int[] sides = new int[PARTS];
        final int[] strengths = new int[PARTS];
        final int[] weights = new int[PARTS];
        final int[] wears = new int[PARTS];
        // The parts that are there, as a set.
        int there;
        final int[] sky = new int[SKY];
        int draw;
        int beastCount;
        final int[] caps = new int[BEASTS];
        int campCount;
        final int[] fars = new int[CAMPS];
        final int[] grass = new int[CAMPS * MONTHS];
        final int[] herding = new int[HERDING];

        Stock() {
            sky[COLD] = COLD_AT_FIRST;
            draw = DRAW_AT_FIRST;
            herding[HERD] = HERD_AT_FIRST;
            herding[ROAD] = ROAD_AT_FIRST;
            herding[PACK] = PACK_AT_FIRST;
        }

        void takeOver(Stock other) {
            partCount = other.partCount;
            System.arraycopy(other.kinds, 0, kinds, 0, PARTS);
            System.arraycopy(other.sides, 0, sides, 0, PARTS);
            System.arraycopy(other.strengths, 0, strengths, 0, PARTS);
            System.arraycopy(other.weights, 0, weights, 0, PARTS);
            System.arraycopy(other.wears, 0, wears, 0, PARTS);
            there = other.there;
            System.arraycopy(other.sky, 0, sky, 0, SKY);
            draw = other.draw;
            beastCount = other.beastCount;
            System.arraycopy(other.caps, 0, caps, 0, BEASTS);
            campCount = other.campCount;
            System.arraycopy(other.fars, 0, fars, 0, CAMPS);
            System.arraycopy(other.grass, 0, grass, 0, CAMPS * MONTHS);
            System.arraycopy(other.herding, 0, herding, 0, HERDING);
        }

        boolean hasPart(int p) {
            return p >= 0 && p < partCount;
        }

        boolean isThere(int p) {
            return (there >> p & 1) == 1;
        }

        boolean areAllThere(int set) {
            return (set & ~there) == 0;
        }

        boolean hasCamp(int c) {
            return c >= 0 && c < campCount;
        }

        /** The new part's number; the caller has seen that there is room, as for beasts and camps. */
        int addPart(int kind, int side, int strength, int weight) {
            if (partCount >= PARTS) {
                return NOBODY;
            }
            int p = partCount;
            kinds[p] = kind;
            sides[p] = side;
            strengths[p] = strength;
            weights[p] = weight;
            wears[p] = 0;
            there |= 1 << p;
            partCount++;
            return p;
        }

        int addBeast(int cap) {
            if (beastCount >= BEASTS) {
                return NOBODY;
            }
            caps[beastCount] = cap;
            beastCount++;
            return beastCount - 1;
        }

        int addCamp(int far) {
            if (campCount >= CAMPS) {
                return NOBODY;
            }
            int c = campCount;
            fars[c] = far;
            for (int month = 0; month < MONTHS; month++) {
                grass[c * MONTHS + month] = 0;
            }
            campCount++;
            return c;
        }

        /** Ages each part once: how many became wanting. */
        int growOlder() {
            int more = sky[WET] > 4 ? 2 : 1;
            int wanting = 0;
            for (int p = 0; p < partCount; p++) {
                if (!isThere(p)) {
                    continue;
                }
                wears[p] += more;
                if (wears[p] > WEAR_MOST) {
                    wears[p] = 0;
                    there &= ~(1 << p);
                    wanting++;
                }
            }
            return wanting;
        }

        int weightThere() {
            int sum = 0;
            for (int p = 0; p < partCount; p++) {
                sum += isThere(p) ? weights[p] : 0;
            }
            return sum;
        }

        /** What a month at a camp costs; stay 0 is the first on end there, 1 the second, 2 a later one. */
        int monthCost(int camp, int month, int stay) {
            int eaten = grass[camp * MONTHS + month];
            if (stay == 1) {
                eaten /= 2;
            } else if (stay > 1) {
                eaten = 0;
            }
            return Math.max(0, herding[HERD] - eaten);
        }

        int moveCost(int camp, int next) {
            return herding[ROAD] * Math.abs(fars[camp] - fars[next]) + herding[PACK];
        }

        /** The cost of a sheet's row, all of whose numbers are camps. */
        int costOfRow(Sheet sheet, int month) {
            int cost = 0;
            int stay = 0;
            int camp = NOBODY;
            for (int i = 0; i < sheet.size; i++) {
                int next = (int) sheet.numbers[i];
                if (next == camp) {
                    stay = Math.min(stay + 1, STAYS - 1);
                } else {
                    stay = 0;
                    cost += camp == NOBODY ? 0 : moveCost(camp, next);
                }
                cost += monthCost(next, (month + i) % MONTHS, stay);
                camp = next;
            }
            return cost;
        }
    }

    /** The house under a wind, a draw and a want that may be supposed: what its sides push and hold. */
    private static final class Frame {
        final Stock stock;
        int wind;
        int from;
        int draw;
        // The parts that are there, as a set.
        int here;
        final int[] pushed = new int[SIDES];
        final int[] held = new int[SIDES];

        Frame(Stock stock) {
            this.stock = stock;
        }

        /** Nothing is supposed. */
        void asItIs() {
            wind = stock.sky[WIND];
            from = stock.sky[FROM];
            draw = stock.draw;
            here = stock.there;
        }

        boolean isHere(int p) {
            return (here >> p & 1) == 1;
        }

        int good(int p) {
            return isHere(p) ? stock.strengths[p] * (100 - stock.wears[p]) / 100 : 0;
        }

        int pushes(int p) {
            switch (stock.kinds[p]) {
                case POLE:
                    return good(p) > 0 ? good(p) + stock.sky[SNOW] / 4 : 0;
                case FLAP:
                    return isHere(p) && stock.sides[p] == from ? wind : 0;
                default:
                    return 0;
            }
        }

        int holds(int p) {
            switch (stock.kinds[p]) {
                case BAND:
                    return drawnHold(p);
                case ROPE:
                    return drawnHold(p) - stock.sky[WET] * drawnHold(p) / 10;
                case STONE:
                    return good(p) > 0 ? stock.weights[p] : 0;
                case FELT:
                case FLAP:
                    return good(p) / 10;
                default:
                    return 0;
            }
        }

        private int drawnHold(int p) {
            return good(p) * draw / 20;
        }

        int warms(int p) {
            switch (stock.kinds[p]) {
                case FELT:
                    return feltWarms(p);
                case FLAP:
                    return Math.max(0, feltWarms(p) - wind / 10);
                default:
                    return 0;
            }
        }

        private int feltWarms(int p) {
            int warm = good(p) / 5;
            return stock.sky[WET] >= 5 ? warm / 2 : warm;
        }

        /** Adds up what the parts of each side push and hold, for strain(), hold() and spare(). */
        void gather() {
            Arrays.fill(pushed, 0);
            Arrays.fill(held, 0);
            for (int p = 0; p < stock.partCount; p++) {
                pushed[stock.sides[p]] += pushes(p);
                held[stock.sides[p]] += holds(p);
            }
        }

        int strain(int side) {
            if (side == (from + ACROSS) % SIDES) {
                return pushed[side] + wind;
            }
            return pushed[side] + (side == from ? wind / 2 : wind / 4);
        }

        int hold(int side) {
            int beside = held[(side + 1) % SIDES] + held[(side + SIDES - 1) % SIDES];
            return held[side] + beside / 2;
        }

        int spare(int side) {
            return hold(side) - strain(side);
        }

        int weakestSide() {
            int weakest = 0;
            for (int side = 1; side < SIDES; side++) {
                if (spare(side) < spare(weakest)) {
                    weakest = side;
                }
            }
            return weakest;
        }

        boolean isStanding() {
            if (!hasPoles() || isOverdrawn()) {
                return false;
            }
            gather();
            for (int side = 0; side < SIDES; side++) {
                if (spare(side) < 0) {
                    return false;
                }
            }
            return true;
        }

        private boolean hasPoles() {
            int poled = 0;
            for (int p = 0; p < stock.partCount; p++) {
                if (stock.kinds[p] == POLE && good(p) > 0) {
                    poled |= 1 << stock.sides[p];
                }
            }
            return Integer.bitCount(poled) >= POLED_SIDES;
        }

        private boolean isOverdrawn() {
            for (int p = 0; p < stock.partCount; p++) {
                if (isHere(p) && isOfKind(stock.kinds[p], BAND) && draw > good(p) / 2 + 20) {
                    return true;
                }
            }
            return false;
        }

        int warmthOfAll() {
            int sum = 0;
            for (int p = 0; p < stock.partCount; p++) {
                sum += warms(p);
            }
            return sum - wind / 5 - stock.sky[SNOW] / 3;
        }

        int fuel() {
            int lacking = stock.sky[COLD] * 10 - warmthOfAll();
            return lacking > 0 ? lacking / 20 + 1 : 0;
        }
    }

    /** A load of at most LOAD_MOST parts, told by subsets of its own places. */
    private static final class Loads {
        static final int CARRY_BITS = 10;
        static final int CARRY_MASK = (1 << CARRY_BITS) - 1;

        final Stock stock;
        final int[] parts = new int[LOAD_MOST];
        final int[] weights = new int[LOAD_MOST];
        int size;
        // One number for each subset: its weight, or how well it can be laid on the beasts.
        final int[] subsets = new int[1 << LOAD_MOST];
        int difference;
        int left;

        Loads(Stock stock) {
            this.stock = stock;
        }

        void lay(int set) {
            size = 0;
            for (int p = 0; p < stock.partCount; p++) {
                if ((set >> p & 1) == 1 && size < LOAD_MOST) {
                    parts[size] = p;
                    weights[size] = stock.weights[p];
                    size++;
                }
            }
        }

        /**
         * The least number of beasts, one more than there are if all are too few. Beasts are laden in
         * their order; of a subset the best way is the one that has come to the earliest beast and,
         * of such, has the least on it, for it can do whatever another can. Both stand in one number:
         * the beast above CARRY_BITS, what it carries (990 at most) below.
         */
        int leastBeasts() {
            if (size == 0) {
                return 0;
            }
            int all = (1 << size) - 1;
            int tooFew = stock.beastCount << CARRY_BITS;
            Arrays.fill(subsets, tooFew);
            subsets[0] = 0;
            for (int laid = 0; laid < all; laid++) {
                for (int i = 0; i < size; i++) {
                    int more = laid | 1 << i;
                    if (more != laid) {
                        subsets[more] = Math.min(subsets[more], afterLaying(subsets[laid], weights[i]));
                    }
                }
            }
            return (subsets[all] >> CARRY_BITS) + 1;
        }

        private int afterLaying(int way, int weight) {
            int beast = way >> CARRY_BITS;
            if (beast < stock.beastCount && (way & CARRY_MASK) + weight <= stock.caps[beast]) {
                return way + weight;
            }
            for (int next = beast + 1; next < stock.beastCount; next++) {
                if (weight <= stock.caps[next]) {
                    return (next << CARRY_BITS) + weight;
                }
            }
            return stock.beastCount << CARRY_BITS;
        }

        /** Finds the evenest way: difference, and left, the least set that is not the heavier side. */
        void balance() {
            int all = (1 << size) - 1;
            int total = 0;
            for (int i = 0; i < size; i++) {
                total += weights[i];
            }
            difference = total;
            int best = 0;
            subsets[0] = 0;
            for (int laid = 1; laid <= all; laid++) {
                // The subset without its lowest place came before it.
                int lowest = Integer.numberOfTrailingZeros(laid);
                subsets[laid] = subsets[laid & (laid - 1)] + weights[lowest];
                int lighter = total - 2 * subsets[laid];
                if (lighter >= 0 && lighter < difference) {
                    difference = lighter;
                    best = laid;
                }
            }
            left = partsOf(best);
        }

        private int partsOf(int laid) {
            int set = 0;
            for (int i = 0; i < size; i++) {
                if ((laid >> i & 1) == 1) {
                    set |= 1 << parts[i];
                }
            }
            return set;
        }
    }

    /** The best year from a month on. */
    private static final class Plan {
        final Stock stock;
        // The least cost from a place of the row to its end, by place, camp and stay there.
        final int[] least = new int[YEAR_MOST * CAMPS * STAYS];
        final int[] row = new int[YEAR_MOST];
        int cost;

        Plan(Stock stock) {
            this.stock = stock;
        }

        /** Makes row and cost; there is a camp, and n is 1 to YEAR_MOST. */
        void make(int month, int n) {
            for (int i = n - 1; i >= 0; i--) {
                for (int camp = 0; camp < stock.campCount; camp++) {
                    for (int stay = 0; stay < STAYS; stay++) {
                        int here = stock.monthCost(camp, (month + i) % MONTHS, stay);
                        least[at(i, camp, stay)] = here + restCost(i + 1, n, camp, stay);
                    }
                }
            }
            int camp = firstCamp();
            int stay = 0;
            cost = least[at(0, camp, stay)];
            row[0] = camp;
            for (int i = 1; i < n; i++) {
                int next = nextCamp(i, camp, stay);
                stay = next == camp ? longer(stay) : 0;
                camp = next;
                row[i] = camp;
            }
        }

        int movesIn(int n) {
            int moves = 0;
            for (int i = 1; i < n; i++) {
                moves += row[i] == row[i - 1] ? 0 : 1;
            }
            return moves;
        }

        private int firstCamp() {
            int best = 0;
            for (int camp = 1; camp < stock.campCount; camp++) {
                if (least[at(0, camp, 0)] < least[at(0, best, 0)]) {
                    best = camp;
                }
            }
            return best;
        }

        private int restCost(int i, int n, int camp, int stay) {
            return i >= n ? 0 : onwardCost(i, camp, stay, nextCamp(i, camp, stay));
        }

        /** The first of the best camps for place i, behind a stay at a camp. */
        private int nextCamp(int i, int camp, int stay) {
            int best = 0;
            int bestCost = onwardCost(i, camp, stay, 0);
            for (int next = 1; next < stock.campCount; next++) {
                int nextCost = onwardCost(i, camp, stay, next);
                if (nextCost < bestCost) {
                    bestCost = nextCost;
                    best = next;
                }
            }
            return best;
        }

        private int onwardCost(int i, int camp, int stay, int next) {
            if (next == camp) {
                return least[at(i, camp, longer(stay))];
            }
            return least[at(i, next, 0)] + stock.moveCost(camp, next);
        }

        private static int longer(int stay) {
            return Math.min(stay + 1, STAYS - 1);
        }

        private static int at(int i, int camp, int stay) {
            return (i * CAMPS + camp) * STAYS + stay;
        }
    }

    /** The tape, and the reader of the text that it bears. */
    private static final class Text {
        static final int END = 0;
        static final int WORD = 1;
        static final int NUMBER = 2;
        static final int COMMA = 3;
        static final int OTHER = 4;
        static final int NUMBER_MOST = 999;

        final int[] tape = new int[TAPE_MOST];
        int size;
        private int place;
        private int token;
        private int start;
        private int value;

        void add(int b) {
            if (size < TAPE_MOST) {
                tape[size] = b;
                size++;
            }
        }

        /** How many items came to a stock, or -1 less the fault's place (the stock is spoilt then). */
        int tellTo(Stock stock) {
            place = 0;
            step();
            // An item has more than one byte, so the tape's length bounds them.
            for (int items = 1; items <= TAPE_MOST; items++) {
                if (!takeItem(stock)) {
                    return -1 - start;
                }
                if (token == END) {
                    return items;
                }
                if (token != COMMA) {
                    return -1 - start;
                }
                step();
            }
            return -1 - start;
        }

        /** Each take.. goes on past what it takes, or answers false with the fault's token at hand. */
        private boolean takeItem(Stock stock) {
            if (token != WORD) {
                return false;
            }
            for (int kind = 0; kind < KINDS; kind++) {
                if (isWord(kindName(kind))) {
                    return takePart(stock, kind);
                }
            }
            if (isWord("camp")) {
                return takeCamp(stock);
            }
            if (isWord("beast")) {
                return takeBeast(stock);
            }
            return isWord("draw") && takeDraw(stock);
        }

        private boolean takePart(Stock stock, int kind) {
            if (stock.partCount >= PARTS) {
                return false;
            }
            step();
            if (!isNumber(0, SIDES - 1)) {
                return false;
            }
            int side = value;
            step();
            if (!isNumber(1, STRENGTH_MOST)) {
                return false;
            }
            int p = stock.addPart(kind, side, value, 0);
            step();
            return takePerhaps("weight", stock.weights, p, WEIGHT_MOST)
                    && takePerhaps("wear", stock.wears, p, WEAR_MOST);
        }

        private boolean takePerhaps(String word, int[] row, int p, int most) {
            if (token != WORD || !isWord(word)) {
                return true;
            }
            step();
            if (!isNumber(0, most) || p < 0 || p >= row.length) {
                return false;
            }
            row[p] = value;
            step();
            return true;
        }

        private boolean takeCamp(Stock stock) {
            if (stock.campCount >= CAMPS) {
                return false;
            }
            step();
            if (!isNumber(0, FAR_MOST)) {
                return false;
            }
            int camp = stock.addCamp(value);
            step();
            return token != WORD || !isWord("grass") || takeGrass(stock, camp);
        }

        private boolean takeGrass(Stock stock, int camp) {
            step();
            if (camp < 0 || !isNumber(0, GRASS_MOST)) {
                return false;
            }
            for (int month = 0; month < MONTHS; month++) {
                if (token != NUMBER) {
                    return true;
                }
                if (!isNumber(0, GRASS_MOST)) {
                    return false;
                }
                stock.grass[camp * MONTHS + month] = value;
                step();
            }
            return token != NUMBER;
        }

        private boolean takeBeast(Stock stock) {
            if (stock.beastCount >= BEASTS) {
                return false;
            }
            step();
            if (!isNumber(1, CAP_MOST)) {
                return false;
            }
            stock.addBeast(value);
            step();
            return true;
        }

        private boolean takeDraw(Stock stock) {
            step();
            if (!isNumber(0, DRAW_MOST)) {
                return false;
            }
            stock.draw = value;
            step();
            return true;
        }

        private boolean isNumber(int least, int most) {
            return token == NUMBER && within(value, least, most);
        }

        private boolean isWord(String word) {
            if (place - start != word.length()) {
                return false;
            }
            for (int i = 0; i < word.length(); i++) {
                if (tape[start + i] != word.charAt(i)) {
                    return false;
                }
            }
            return true;
        }

        private static String kindName(int kind) {
            switch (kind) {
                case POLE: return "pole";
                case BAND: return "band";
                case STONE: return "stone";
                case FELT: return "felt";
                case FLAP: return "flap";
                case ROPE: return "rope";
                default: return "part";
            }
        }

        /** Goes to the next token: its sort, its first byte's place, and its value if it is a number. */
        private void step() {
            while (place < size && tape[place] == ' ') {
                place++;
            }
            start = place;
            if (place >= size) {
                token = END;
            } else if (isLetter(tape[place])) {
                token = WORD;
                while (place < size && isLetter(tape[place])) {
                    place++;
                }
            } else if (isDigit(tape[place])) {
                token = NUMBER;
                value = 0;
                while (place < size && isDigit(tape[place])) {
                    // Held just above what a number may be, so that a long one can't wrap around.
                    value = Math.min(value * 10 + tape[place] - '0', NUMBER_MOST + 1);
                    place++;
                }
            } else {
                token = tape[place] == ',' ? COMMA : OTHER;
                place++;
            }
        }

        private static boolean isLetter(int b) {
            return b >= 'a' && b <= 'z';
        }

        private static boolean isDigit(int b) {
            return b >= '0' && b <= '9';
        }
    }

    /** A row of numbers of some bits; 0 bits: it is missing. */
    private static final class Sheet {
        int bits;
        int size;
        final long[] numbers = new long[SHEET_MOST];

        boolean isMissing() {
            return bits == 0;
        }

        void lay(int width, int n) {
            bits = width;
            size = width == 0 ? 0 : n;
            Arrays.fill(numbers, 0L);
        }

        /** The lowest bits of v as a number with a sign, for a spare may be below 0. */
        long narrowed(long v) {
            if (bits == 8) {
                return (byte) v;
            }
            return bits == 16 ? (short) v : v;
        }

        boolean hasRange(int from, int n) {
            return from >= 0 && n >= 0 && from <= size && n <= size - from;
        }
    }
}
