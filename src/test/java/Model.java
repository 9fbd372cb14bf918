import java.util.ArrayList;
import java.util.List;
import java.util.regex.Matcher;
import java.util.regex.Pattern;

/**
 * A second, slow reading of the document, made to differ from FeltHouse in its ways: parts are
 * objects of a tree of classes, what is asked for is tried out one by one, the text is cut by
 * patterns. ModelTest holds the two against each other.
 */
final class Model {
    static class Part implements Cloneable {
        int kind;
        int side;
        int strength;
        int weight;
        int wear;
        boolean there = true;

        int good() {
            return there ? strength * (100 - wear) / 100 : 0;
        }

        int pushes(World w) {
            return 0;
        }

        int holds(World w) {
            return 0;
        }

        int warms(World w) {
            return 0;
        }

        Part twin() {
            try {
                return (Part) clone();
            } catch (CloneNotSupportedException e) {
                throw new IllegalStateException(e);
            }
        }
    }

    static final class Pole extends Part {
        @Override
        int pushes(World w) {
            return good() == 0 ? 0 : good() + w.sky[3] / 4;
        }
    }

    static class Band extends Part {
        @Override
        int holds(World w) {
            return good() * w.draw / 20;
        }
    }

    static final class Rope extends Band {
        @Override
        int holds(World w) {
            int dry = super.holds(w);
            return dry - (w.sky[2] * dry) / 10;
        }
    }

    static final class Stone extends Part {
        @Override
        int holds(World w) {
            return good() == 0 ? 0 : weight;
        }
    }

    static class Felt extends Part {
        @Override
        int holds(World w) {
            return good() / 10;
        }

        @Override
        int warms(World w) {
            return w.sky[2] < 5 ? good() / 5 : good() / 5 / 2;
        }
    }

    static final class Flap extends Felt {
        @Override
        int pushes(World w) {
            return super.pushes(w) + (there && w.sky[1] == side ? w.sky[0] : 0);
        }

        @Override
        int warms(World w) {
            int warm = super.warms(w) - w.sky[0] / 10;
            return warm < 0 ? 0 : warm;
        }
    }

    static final class Camp {
        int far;
        int[] grass = new int[12];
    }

    /** All that an image keeps. */
    static final class World {
        List<Part> parts = new ArrayList<>();
        int[] sky = {0, 0, 0, 0, 20};
        int draw = 20;
        List<Integer> beasts = new ArrayList<>();
        List<Camp> camps = new ArrayList<>();
        int[] herd = {100, 2, 5};

        World twin() {
            World t = new World();
            for (Part p : parts) {
                t.parts.add(p.twin());
            }
            t.sky = sky.clone();
            t.draw = draw;
            t.beasts.addAll(beasts);
            for (Camp c : camps) {
                Camp d = new Camp();
                d.far = c.far;
                d.grass = c.grass.clone();
                t.camps.add(d);
            }
            t.herd = herd.clone();
            return t;
        }

        int strain(int side) {
            int sum = 0;
            for (Part p : parts) {
                sum += p.side == side ? p.pushes(this) : 0;
            }
            int apart = Math.abs(side - sky[1]);
            return sum + (apart == 4 ? sky[0] : apart == 0 ? sky[0] / 2 : sky[0] / 4);
        }

        int hold(int side) {
            int own = 0;
            int beside = 0;
            for (Part p : parts) {
                int apart = Math.abs(p.side - side);
                own += apart == 0 ? p.holds(this) : 0;
                beside += apart == 1 || apart == 7 ? p.holds(this) : 0;
            }
            return own + beside / 2;
        }

        int spare(int side) {
            return hold(side) - strain(side);
        }

        int leastSpare() {
            int least = Integer.MAX_VALUE;
            for (int side = 0; side < 8; side++) {
                least = Math.min(least, spare(side));
            }
            return least;
        }

        boolean stands() {
            boolean[] poled = new boolean[8];
            for (Part p : parts) {
                if (p instanceof Pole && p.good() > 0) {
                    poled[p.side] = true;
                }
                if (p instanceof Band && p.there && draw > p.good() / 2 + 20) {
                    return false;
                }
            }
            int n = 0;
            for (boolean is : poled) {
                n += is ? 1 : 0;
            }
            return n >= 3 && leastSpare() >= 0;
        }

        int warmth() {
            int sum = 0;
            for (Part p : parts) {
                sum += p.warms(this);
            }
            return sum - sky[0] / 5 - sky[3] / 3;
        }

        int fuel() {
            int more = sky[4] * 10 - warmth();
            return more > 0 ? more / 20 + 1 : 0;
        }

        /** What a row costs, told from its start. */
        int cost(int[] row, int n, int month) {
            int cost = 0;
            for (int i = 0; i < n; i++) {
                Camp c = camps.get(row[i]);
                int eat = c.grass[(month + i) % 12];
                if (i >= 1 && row[i - 1] == row[i]) {
                    eat = i >= 2 && row[i - 2] == row[i] ? 0 : eat / 2;
                } else if (i >= 1) {
                    cost += herd[1] * Math.abs(c.far - camps.get(row[i - 1]).far) + herd[2];
                }
                cost += herd[0] > eat ? herd[0] - eat : 0;
            }
            return cost;
        }
    }

    /** A row of camps with its cost, for the search of the best year. */
    private record Way(int cost, int[] row, int stay) {
    }

    private static final Pattern TOKEN = Pattern.compile(" *([a-z]+|[0-9]+|,|\\z|.)", Pattern.DOTALL);
    private static final String[] NAMES = {"part", "pole", "band", "stone", "felt", "flap", "rope"};

    World w = new World();
    private World kept;
    private final StringBuilder tape = new StringBuilder();
    private final int[] found = new int[7];
    private final int[] bits = new int[4];
    private final long[][] sheets = new long[4][];

    private long finding(long which) {
        found[(int) (Check.BEYOND - which)]++;
        return which;
    }

    private static boolean in(long v, long least, long most) {
        return least <= v && v <= most;
    }

    private boolean isPart(int p) {
        return in(p, 0, w.parts.size() - 1);
    }

    private static Part made(int kind, int side, int strength, int weight) {
        Part p = switch (kind) {
            case 1 -> new Pole();
            case 2 -> new Band();
            case 3 -> new Stone();
            case 4 -> new Felt();
            case 5 -> new Flap();
            case 6 -> new Rope();
            default -> new Part();
        };
        p.kind = kind;
        p.side = side;
        p.strength = strength;
        p.weight = weight;
        return p;
    }

    long part(int kind, int side, int strength, int weight) {
        if (!in(kind, 0, 6) || !in(side, 0, 7) || !in(strength, 1, 999) || !in(weight, 0, 99)) {
            return finding(Check.BEYOND);
        }
        if (w.parts.size() == 20) {
            return finding(Check.FULL);
        }
        w.parts.add(made(kind, side, strength, weight));
        return w.parts.size() - 1;
    }

    long of(int part, int what) {
        if (!isPart(part) || !in(what, 0, 9)) {
            return finding(Check.BEYOND);
        }
        Part p = w.parts.get(part);
        int[] all = {p.kind, p.side, p.strength, p.weight, p.wear, p.there ? 1 : 0, p.good(),
            p.pushes(w), p.holds(w), p.warms(w)};
        return all[what];
    }

    long set(int part, int what, int v) {
        if (!isPart(part) || !in(what, 2, 4) || !in(v, what == 2 ? 1 : 0, what == 2 ? 999 : 99)) {
            return finding(Check.BEYOND);
        }
        long was = of(part, what);
        Part p = w.parts.get(part);
        p.strength = what == 2 ? v : p.strength;
        p.weight = what == 3 ? v : p.weight;
        p.wear = what == 4 ? v : p.wear;
        return was;
    }

    long want(int part, boolean is) {
        if (!isPart(part)) {
            return finding(Check.BEYOND);
        }
        boolean was = w.parts.get(part).there;
        w.parts.get(part).there = is;
        return was == is ? 0 : 1;
    }

    long as(int part, int kind) {
        if (!isPart(part) || !in(kind, 0, 6)) {
            return finding(Check.BEYOND);
        }
        Part p = w.parts.get(part);
        Class<?> asked = made(kind, 0, 1, 0).getClass();
        return asked.isInstance(p) ? p.good() : finding(Check.KIND);
    }

    long sky(int what, int v) {
        if (!in(what, 0, 4) || !in(v, 0, new int[] {99, 7, 9, 99, 60}[what])) {
            return finding(Check.BEYOND);
        }
        int was = w.sky[what];
        w.sky[what] = v;
        return was;
    }

    long draw(int v) {
        if (!in(v, 0, 99)) {
            return finding(Check.BEYOND);
        }
        int was = w.draw;
        w.draw = v;
        return was;
    }

    long age(int n) {
        if (!in(n, 1, 50)) {
            return finding(Check.BEYOND);
        }
        int wanting = 0;
        for (Part p : w.parts) {
            for (int i = 0; i < n && p.there; i++) {
                p.wear += w.sky[2] >= 5 ? 2 : 1;
                if (p.wear >= 100) {
                    p.wear = 0;
                    p.there = false;
                    wanting++;
                }
            }
        }
        return wanting;
    }

    long side(int side, int what) {
        if (!in(side, 0, 7) || !in(what, 0, 2)) {
            return finding(Check.BEYOND);
        }
        return what == 0 ? w.strain(side) : what == 1 ? w.hold(side) : w.spare(side);
    }

    long stands() {
        return w.stands() ? 1 : 0;
    }

    long first() {
        int side = 0;
        while (w.spare(side) != w.leastSpare()) {
            side++;
        }
        return side;
    }

    long gust() {
        World t = w.twin();
        for (t.sky[0] = 0; t.sky[0] < 100; t.sky[0]++) {
            if (!t.stands()) {
                return t.sky[0];
            }
        }
        return finding(Check.NONE);
    }

    long canWant() {
        long set = 0;
        for (int p = 0; p < w.parts.size(); p++) {
            World t = w.twin();
            t.parts.get(p).there = false;
            set |= w.parts.get(p).there && t.stands() ? 1L << p : 0;
        }
        return set;
    }

    long span(int what) {
        if (!in(what, 0, 1)) {
            return finding(Check.BEYOND);
        }
        World t = w.twin();
        List<Integer> all = new ArrayList<>();
        for (t.draw = 0; t.draw < 100; t.draw++) {
            if (t.stands()) {
                all.add(t.draw);
            }
        }
        return all.isEmpty() ? finding(Check.NONE) : all.get(what == 0 ? 0 : all.size() - 1);
    }

    long worst() {
        World t = w.twin();
        int worst = 0;
        int least = Integer.MAX_VALUE;
        for (t.sky[1] = 0; t.sky[1] < 8; t.sky[1]++) {
            if (t.leastSpare() < least) {
                least = t.leastSpare();
                worst = t.sky[1];
            }
        }
        return worst;
    }

    long warmth(int what) {
        if (!in(what, 0, 1)) {
            return finding(Check.BEYOND);
        }
        return what == 0 ? w.warmth() : w.fuel();
    }

    long idle() {
        long set = 0;
        for (int p = 0; p < w.parts.size(); p++) {
            World t = w.twin();
            t.parts.get(p).there = false;
            set |= w.parts.get(p).there && t.fuel() == w.fuel() ? 1L << p : 0;
        }
        return set;
    }

    long beast(int cap) {
        if (!in(cap, 1, 999)) {
            return finding(Check.BEYOND);
        }
        if (w.beasts.size() == 6) {
            return finding(Check.FULL);
        }
        w.beasts.add(cap);
        return w.beasts.size() - 1;
    }

    long cap(int beast) {
        return in(beast, 0, w.beasts.size() - 1) ? w.beasts.get(beast) : finding(Check.BEYOND);
    }

    private List<Part> load(int set) {
        List<Part> load = new ArrayList<>();
        for (int p = 0; p < 32; p++) {
            if ((set >>> p & 1) == 1) {
                if (!isPart(p) || !w.parts.get(p).there) {
                    return null;
                }
                load.add(w.parts.get(p));
            }
        }
        return load;
    }

    long beasts(int set) {
        List<Part> load = load(set);
        if (load == null) {
            return finding(Check.BEYOND);
        }
        if (load.size() > 10) {
            return finding(Check.SIZE);
        }
        for (int n = 0; n <= w.beasts.size(); n++) {
            int[] room = new int[n];
            for (int b = 0; b < n; b++) {
                room[b] = w.beasts.get(b);
            }
            if (goOn(load, 0, room)) {
                return n;
            }
        }
        return finding(Check.NONE);
    }

    private static boolean goOn(List<Part> load, int i, int[] room) {
        if (i == load.size()) {
            return true;
        }
        int left = 0;
        for (int r : room) {
            left += r;
        }
        for (int k = i; k < load.size(); k++) {
            left -= load.get(k).weight;
        }
        if (left < 0) {
            return false;
        }
        for (int b = 0; b < room.length; b++) {
            if (room[b] >= load.get(i).weight) {
                room[b] -= load.get(i).weight;
                boolean goes = goOn(load, i + 1, room);
                room[b] += load.get(i).weight;
                if (goes) {
                    return true;
                }
            }
        }
        return false;
    }

    long even(int set, int what) {
        List<Part> load = load(set);
        if (load == null || !in(what, 0, 1)) {
            return finding(Check.BEYOND);
        }
        if (load.size() > 10) {
            return finding(Check.SIZE);
        }
        int least = Integer.MAX_VALUE;
        int left = 0;
        for (int side = set; ; side = (side - 1) & set) {
            int mine = 0;
            int other = 0;
            for (int p = 0; p < w.parts.size(); p++) {
                mine += (side >> p & 1) == 1 ? w.parts.get(p).weight : 0;
                other += ((set & ~side) >> p & 1) == 1 ? w.parts.get(p).weight : 0;
            }
            if (mine <= other && other - mine <= least) {
                least = other - mine;
                left = side;
            }
            if (side == 0) {
                return what == 0 ? least : left;
            }
        }
    }

    long camp(int far) {
        if (!in(far, 0, 99)) {
            return finding(Check.BEYOND);
        }
        if (w.camps.size() == 6) {
            return finding(Check.FULL);
        }
        Camp c = new Camp();
        c.far = far;
        w.camps.add(c);
        return w.camps.size() - 1;
    }

    long grass(int camp, int month, int v) {
        if (!in(camp, 0, w.camps.size() - 1) || !in(month, 0, 11) || !in(v, 0, 999)) {
            return finding(Check.BEYOND);
        }
        int was = w.camps.get(camp).grass[month];
        w.camps.get(camp).grass[month] = v;
        return was;
    }

    long campOf(int camp, int what) {
        if (!in(camp, 0, w.camps.size() - 1) || !in(what, 0, 12)) {
            return finding(Check.BEYOND);
        }
        return what == 12 ? w.camps.get(camp).far : w.camps.get(camp).grass[what];
    }

    long herd(int what, int v) {
        if (!in(what, 0, 2) || !in(v, 0, what == 1 ? 99 : 999)) {
            return finding(Check.BEYOND);
        }
        int was = w.herd[what];
        w.herd[what] = v;
        return was;
    }

    /**
     * The best row, found forwards: for each camp and stay at the end of a row so far, the cheapest
     * row that ends so, the first by camps of several.
     */
    private int[] bestRow(int month, int n) {
        int camps = w.camps.size();
        List<Way> ways = new ArrayList<>();
        for (int c = 0; c < camps; c++) {
            ways.add(new Way(w.cost(new int[] {c}, 1, month), new int[] {c}, 0));
        }
        for (int i = 1; i < n; i++) {
            Way[] best = new Way[camps * 3];
            for (Way way : ways) {
                for (int c = 0; c < camps; c++) {
                    int[] row = java.util.Arrays.copyOf(way.row, i + 1);
                    row[i] = c;
                    int stay = way.row[i - 1] == c ? Math.min(2, way.stay + 1) : 0;
                    Way next = new Way(w.cost(row, i + 1, month), row, stay);
                    if (best[c * 3 + stay] == null || isBefore(next, best[c * 3 + stay])) {
                        best[c * 3 + stay] = next;
                    }
                }
            }
            ways.clear();
            for (Way way : best) {
                if (way != null) {
                    ways.add(way);
                }
            }
        }
        Way first = ways.get(0);
        for (Way way : ways) {
            first = isBefore(way, first) ? way : first;
        }
        return first.row;
    }

    private static boolean isBefore(Way a, Way b) {
        return a.cost != b.cost ? a.cost < b.cost : java.util.Arrays.compare(a.row, b.row) < 0;
    }

    /** The best row of all rows, tried one by one in their order. */
    private int[] bestOfAll(int month, int n) {
        int[] row = new int[n];
        int[] best = row.clone();
        int least = w.cost(row, n, month);
        while (true) {
            int i = n - 1;
            while (i >= 0 && row[i] == w.camps.size() - 1) {
                row[i] = 0;
                i--;
            }
            if (i < 0) {
                return best;
            }
            row[i]++;
            if (w.cost(row, n, month) < least) {
                least = w.cost(row, n, month);
                best = row.clone();
            }
        }
    }

    private int[] best(int month, int n) {
        return Math.pow(w.camps.size(), n) <= 3000 ? bestOfAll(month, n) : bestRow(month, n);
    }

    long year(int month, int n, int what) {
        if (!in(month, 0, 11) || !in(n, 1, 24) || !in(what, -1, n - 1)) {
            return finding(Check.BEYOND);
        }
        if (w.camps.isEmpty()) {
            return finding(Check.NONE);
        }
        int[] row = best(month, n);
        return what == -1 ? w.cost(row, n, month) : row[what];
    }

    long moves(int month, int n) {
        if (!in(month, 0, 11) || !in(n, 1, 24)) {
            return finding(Check.BEYOND);
        }
        if (w.camps.isEmpty()) {
            return finding(Check.NONE);
        }
        int[] row = best(month, n);
        int moves = 0;
        for (int i = 1; i < n; i++) {
            moves += row[i] != row[i - 1] ? 1 : 0;
        }
        return moves;
    }

    long feed(int bytes, int n) {
        if (!in(n, 1, 4)) {
            return finding(Check.BEYOND);
        }
        if (tape.length() + n > 120) {
            return finding(Check.FULL);
        }
        byte[] all = {(byte) (bytes >> 24), (byte) (bytes >> 16), (byte) (bytes >> 8), (byte) bytes};
        for (int i = 4 - n; i < 4; i++) {
            tape.append((char) (all[i] & 255));
        }
        return tape.length();
    }

    long wipe() {
        int had = tape.length();
        tape.setLength(0);
        return had;
    }

    /** The tokens of a text and their places; the last one is the empty text at the end. */
    private record Tokens(List<String> texts, List<Integer> places) {
        String at(int i) {
            return texts.get(Math.min(i, texts.size() - 1));
        }

        boolean isNumber(int i, int least, int most) {
            String s = at(i);
            return !s.isEmpty() && Character.isDigit(s.charAt(0))
                    && in(new java.math.BigInteger(s).min(java.math.BigInteger.valueOf(9999)).intValue(), least, most);
        }

        int number(int i) {
            return Integer.parseInt(at(i));
        }
    }

    long house() {
        String text = tape.toString();
        tape.setLength(0);
        Tokens tokens = new Tokens(new ArrayList<>(), new ArrayList<>());
        Matcher m = TOKEN.matcher(text);
        int from = 0;
        do {
            if (!m.find(from)) {
                throw new IllegalStateException("no token at " + from);
            }
            tokens.texts.add(m.group(1));
            tokens.places.add(m.start(1));
            from = m.end();
        } while (!m.group(1).isEmpty());
        World t = w.twin();
        int items = 0;
        int i = 0;
        while (true) {
            int next = item(t, tokens, i);
            if (next < 0) {
                return -1 - tokens.places.get(-1 - next);
            }
            items++;
            if (tokens.at(next).isEmpty()) {
                w = t;
                return items;
            }
            if (!tokens.at(next).equals(",")) {
                return -1 - tokens.places.get(next);
            }
            i = next + 1;
        }
    }

    /** The token behind an item, or -1 less the token that can't stand there. */
    private static int item(World t, Tokens k, int i) {
        int kind = java.util.Arrays.asList(NAMES).indexOf(k.at(i));
        if (kind >= 0 && t.parts.size() < 20) {
            if (!k.isNumber(i + 1, 0, 7)) {
                return -2 - i;
            }
            if (!k.isNumber(i + 2, 1, 999)) {
                return -3 - i;
            }
            Part p = made(kind, k.number(i + 1), k.number(i + 2), 0);
            t.parts.add(p);
            int at = i + 3;
            for (String word : new String[] {"weight", "wear"}) {
                if (k.at(at).equals(word)) {
                    if (!k.isNumber(at + 1, 0, 99)) {
                        return -2 - at;
                    }
                    p.weight = word.equals("weight") ? k.number(at + 1) : p.weight;
                    p.wear = word.equals("wear") ? k.number(at + 1) : p.wear;
                    at += 2;
                }
            }
            return at;
        }
        if (k.at(i).equals("camp") && t.camps.size() < 6) {
            if (!k.isNumber(i + 1, 0, 99)) {
                return -2 - i;
            }
            Camp c = new Camp();
            c.far = k.number(i + 1);
            t.camps.add(c);
            if (!k.at(i + 2).equals("grass")) {
                return i + 2;
            }
            int n = 0;
            while (n < 12 && k.isNumber(i + 3 + n, 0, 999)) {
                c.grass[n] = k.number(i + 3 + n);
                n++;
            }
            return n == 0 ? -4 - i : i + 3 + n;
        }
        if (k.at(i).equals("beast") && t.beasts.size() < 6) {
            if (!k.isNumber(i + 1, 1, 999)) {
                return -2 - i;
            }
            t.beasts.add(k.number(i + 1));
            return i + 2;
        }
        if (k.at(i).equals("draw")) {
            if (!k.isNumber(i + 1, 0, 99)) {
                return -2 - i;
            }
            t.draw = k.number(i + 1);
            return i + 2;
        }
        return -1 - i;
    }

    long sheet(int s, int width, int n) {
        if (!in(s, 0, 3) || width != 0 && width != 8 && width != 16 && width != 64) {
            return finding(Check.BEYOND);
        }
        if (n < 0) {
            return finding(Check.SIZE);
        }
        if (n > 40) {
            return finding(Check.BEYOND);
        }
        bits[s] = width;
        sheets[s] = width == 0 ? null : new long[n];
        return width == 0 ? 0 : n;
    }

    long write(int s, int i, long v) {
        if (!in(s, 0, 3)) {
            return finding(Check.BEYOND);
        }
        if (sheets[s] == null) {
            return finding(Check.MISSING);
        }
        if (!in(i, 0, sheets[s].length - 1)) {
            return finding(Check.BEYOND);
        }
        long was = sheets[s][i];
        sheets[s][i] = v << (64 - bits[s]) >> (64 - bits[s]);
        return was;
    }

    long copy(int s, int from, int t, int to, int n) {
        if (!in(s, 0, 3) || !in(t, 0, 3)) {
            return finding(Check.BEYOND);
        }
        if (sheets[s] == null || sheets[t] == null) {
            return finding(Check.MISSING);
        }
        if (bits[s] != bits[t]) {
            return finding(Check.KIND);
        }
        if (from < 0 || to < 0 || n < 0 || (long) from + n > sheets[s].length || (long) to + n > sheets[t].length) {
            return finding(Check.BEYOND);
        }
        long[] were = sheets[s].clone();
        for (int i = 0; i < n; i++) {
            sheets[t][to + i] = were[from + i];
        }
        return n;
    }

    long lays(int s, int camp) {
        if (!in(s, 0, 3)) {
            return finding(Check.BEYOND);
        }
        if (sheets[s] == null) {
            return finding(Check.MISSING);
        }
        if (!in(camp, 0, w.camps.size() - 1)) {
            return finding(Check.BEYOND);
        }
        int came = 0;
        for (int i = 0; i < sheets[s].length; i++) {
            if (i < 12 && in(sheets[s][i], 0, 999)) {
                w.camps.get(camp).grass[i] = (int) sheets[s][i];
                came++;
            }
        }
        return came;
    }

    long costs(int s, int month) {
        if (!in(s, 0, 3)) {
            return finding(Check.BEYOND);
        }
        if (sheets[s] == null) {
            return finding(Check.MISSING);
        }
        if (!in(month, 0, 11)) {
            return finding(Check.BEYOND);
        }
        int[] row = new int[sheets[s].length];
        for (int i = 0; i < row.length; i++) {
            if (!in(sheets[s][i], 0, w.camps.size() - 1)) {
                return finding(Check.KIND);
            }
            row[i] = (int) sheets[s][i];
        }
        return w.cost(row, row.length, month);
    }

    long read(int s) {
        if (!in(s, 0, 3)) {
            return finding(Check.BEYOND);
        }
        if (sheets[s] == null) {
            return finding(Check.MISSING);
        }
        for (int i = 0; i < sheets[s].length; i++) {
            if (i == 8 || sheets[s][i] != w.spare(i)) {
                return i + 1;
            }
        }
        return 0;
    }

    long image() {
        kept = w.twin();
        return 1;
    }

    long undo() {
        if (kept == null) {
            return finding(Check.NONE);
        }
        w = kept.twin();
        return w.parts.size();
    }

    long tear() {
        boolean was = kept != null;
        kept = null;
        return was ? 1 : 0;
    }

    long count(int what) {
        int there = 0;
        int weight = 0;
        for (Part p : w.parts) {
            there += p.there ? 1 : 0;
            weight += p.there ? p.weight : 0;
        }
        int[] all = {w.parts.size(), there, w.beasts.size(), w.camps.size(), tape.length(), weight, w.draw};
        return in(what, 0, 6) ? all[what] : finding(Check.BEYOND);
    }

    long status(int which) {
        if (!in(which, -1, 6)) {
            return finding(Check.BEYOND);
        }
        int all = 0;
        for (int n : found) {
            all += n;
        }
        return which == -1 ? all : found[which];
    }
}
