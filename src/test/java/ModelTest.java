import java.util.Random;

/** All promises: long runs of calls, drawn from fixed seeds, on FeltHouse and on Model at once. */
public final class ModelTest {
    private static final int RUNS = 1500;
    private static final int CALLS = 512;
    private static final int ACTS = 41;
    private static final String[] WORDS = {"part", "pole", "band", "stone", "felt", "flap", "rope", "camp",
        "beast", "draw", "weight", "wear", "grass", ",", " ", "x", ";", "A"};
    private static final int[] WIDTHS = {0, 8, 16, 64, 8, 16, 64, 8, 16, 64, 32};

    private final Random random;
    private final FeltHouse x = new FeltHouse();
    private final Model m = new Model();
    /** How lightly the parts are made: some runs want houses that stand, some loads that are heavy. */
    private final int strengthMost;
    private final boolean isCareful;

    private ModelTest(int seed) {
        random = new Random(seed);
        strengthMost = seed % 3 == 0 ? 999 : seed % 3 == 1 ? 60 : 5;
        isCareful = seed % 2 == 0;
    }

    public static void main(String[] args) {
        int[] asked = new int[ACTS];
        for (int seed = 0; seed < RUNS; seed++) {
            ModelTest run = new ModelTest(seed);
            run.begin(seed);
            for (int i = 0; i < CALLS; i++) {
                int act = run.random.nextInt(ACTS);
                asked[act]++;
                if (!run.same(seed, act)) {
                    break;
                }
            }
        }
        for (int act = 0; act < ACTS; act++) {
            Check.holds("act " + act + " was asked", asked[act] > 0);
        }
        Check.end();
    }

    /** Half of the runs begin with a house that is likely to stand. */
    private void begin(int seed) {
        if (!isCareful) {
            return;
        }
        for (int side = 0; side < 8; side += 2) {
            int strength = random.nextInt(10) + 1;
            Check.due(seed + ": a pole", x.part(1, side, strength, 3), m.part(1, side, strength, 3));
            int weight = random.nextInt(60) + 20;
            Check.due(seed + ": a stone", x.part(3, side, 9, weight), m.part(3, side, 9, weight));
        }
        int strength = random.nextInt(200) + 1;
        Check.due(seed + ": a band", x.part(2, 1, strength, 4), m.part(2, 1, strength, 4));
        Check.due(seed + ": a rope", x.part(6, 5, strength, 4), m.part(6, 5, strength, 4));
    }

    /** A number from least to most, or now and then one beside them. */
    private int from(int least, int most) {
        int luck = random.nextInt(60);
        if (luck == 0) {
            return least - 1;
        }
        if (luck == 1) {
            return most + 1;
        }
        if (luck == 2) {
            return random.nextInt();
        }
        if (luck < 6) {
            return luck % 2 == 0 ? least : most;
        }
        return most < least ? least : least + random.nextInt(most - least + 1);
    }

    private int partNumber() {
        return from(0, Math.max(0, m.w.parts.size() - 1));
    }

    private int campNumber() {
        return from(0, Math.max(0, m.w.camps.size() - 1));
    }

    private int load() {
        int there = 0;
        for (int p = 0; p < m.w.parts.size(); p++) {
            there |= m.w.parts.get(p).there ? 1 << p : 0;
        }
        int set = random.nextInt(4) == 0 ? there : there & random.nextInt();
        if (random.nextInt(5) != 0) {
            while (Integer.bitCount(set) > 10) {
                set &= random.nextInt();
            }
        }
        return random.nextInt(30) == 0 ? random.nextInt() : set;
    }

    private void noise() {
        StringBuilder text = new StringBuilder();
        int items = random.nextInt(4) + 1;
        for (int i = 0; i < items; i++) {
            text.append(i == 0 ? "" : random.nextBoolean() ? "," : " , ");
            int sort = random.nextInt(10);
            if (sort < 6) {
                text.append(WORDS[random.nextInt(7)]).append(' ').append(from(0, 7)).append(' ').append(from(1, strengthMost));
                text.append(random.nextBoolean() ? "" : " weight " + from(0, 99));
                text.append(random.nextBoolean() ? "" : " wear" + from(0, 99));
            } else if (sort == 6) {
                text.append("camp ").append(from(0, 99)).append(random.nextBoolean() ? "" : "grass");
                int n = random.nextInt(14);
                for (int k = 0; k < n; k++) {
                    text.append(' ').append(from(0, random.nextBoolean() ? 9 : 999));
                }
            } else if (sort == 7) {
                text.append("beast").append(from(1, 999));
            } else {
                text.append("draw  ").append(from(0, 99));
            }
            if (random.nextInt(8) == 0) {
                text.append(WORDS[random.nextInt(WORDS.length)]);
            }
        }
        if (random.nextInt(12) == 0 && text.length() > 0) {
            text.setCharAt(random.nextInt(text.length()), (char) random.nextInt(256));
        }
        if (random.nextInt(10) == 0) {
            text.setLength(random.nextInt(text.length() + 1));
        }
        for (int i = 0; i < text.length(); i++) {
            x.feed(text.charAt(i), 1);
            m.feed(text.charAt(i), 1);
        }
    }

    private boolean same(int seed, int act) {
        int a = 0;
        int b = 0;
        int c = 0;
        int d = 0;
        long got;
        long want;
        switch (act) {
            case 0:
                a = from(0, 6); b = from(0, 7); c = from(1, strengthMost); d = from(0, 99);
                got = x.part(a, b, c, d); want = m.part(a, b, c, d);
                break;
            case 1: a = partNumber(); b = from(0, 9); got = x.of(a, b); want = m.of(a, b); break;
            case 2:
                a = partNumber(); b = from(2, 4); c = from(0, b == 2 ? strengthMost : 99);
                got = x.set(a, b, c); want = m.set(a, b, c);
                break;
            case 3:
                a = partNumber(); b = random.nextInt(isCareful ? 4 : 2);
                got = x.want(a, b > 0); want = m.want(a, b > 0);
                break;
            case 4: a = partNumber(); b = from(0, 6); got = x.as(a, b); want = m.as(a, b); break;
            case 5:
                a = from(0, 4); b = from(0, new int[] {99, 7, 9, 99, 60}[Math.floorMod(a, 5)] / (isCareful && a == 0 ? 3 : 1));
                got = x.sky(a, b); want = m.sky(a, b);
                break;
            case 6: a = from(0, isCareful ? 40 : 99); got = x.draw(a); want = m.draw(a); break;
            case 7:
                a = isCareful ? from(1, 3) : from(1, 50);
                got = x.age(a); want = m.age(a);
                break;
            case 8: a = from(0, 7); b = from(0, 2); got = x.side(a, b); want = m.side(a, b); break;
            case 9: got = x.stands(); want = m.stands(); break;
            case 10: got = x.first(); want = m.first(); break;
            case 11: got = x.gust(); want = m.gust(); break;
            case 12: got = x.canWant(); want = m.canWant(); break;
            case 13: a = from(0, 1); got = x.span(a); want = m.span(a); break;
            case 14: got = x.worst(); want = m.worst(); break;
            case 15: a = from(0, 1); got = x.warmth(a); want = m.warmth(a); break;
            case 16: got = x.idle(); want = m.idle(); break;
            case 17: a = from(1, isCareful ? 150 : 999); got = x.beast(a); want = m.beast(a); break;
            case 18: a = from(0, 5); got = x.cap(a); want = m.cap(a); break;
            case 19: a = load(); got = x.beasts(a); want = m.beasts(a); break;
            case 20: a = load(); b = from(0, 1); got = x.even(a, b); want = m.even(a, b); break;
            case 21: a = from(0, isCareful ? 9 : 99); got = x.camp(a); want = m.camp(a); break;
            case 22:
                a = campNumber(); b = from(0, 11); c = from(0, isCareful ? 200 : 999);
                got = x.grass(a, b, c); want = m.grass(a, b, c);
                break;
            case 23: a = campNumber(); b = from(0, 12); got = x.campOf(a, b); want = m.campOf(a, b); break;
            case 24:
                a = from(0, 2); b = from(0, a == 0 ? 200 : isCareful ? 5 : 99);
                got = x.herd(a, b); want = m.herd(a, b);
                break;
            case 25:
                a = from(0, 11); b = from(1, 24); c = from(-1, Math.min(23, b - 1));
                got = x.year(a, b, c); want = m.year(a, b, c);
                break;
            case 26: a = from(0, 11); b = from(1, 24); got = x.moves(a, b); want = m.moves(a, b); break;
            case 27: a = random.nextInt(); b = from(1, 4); got = x.feed(a, b); want = m.feed(a, b); break;
            case 28: got = x.wipe(); want = m.wipe(); break;
            case 29: noise(); got = x.house(); want = m.house(); break;
            case 30:
                a = from(0, 3); b = WIDTHS[random.nextInt(WIDTHS.length)]; c = from(0, random.nextInt(4) == 0 ? 40 : 12);
                got = x.sheet(a, b, c); want = m.sheet(a, b, c);
                break;
            case 31:
                a = from(0, 3); b = from(0, 9);
                long v = random.nextInt(3) == 0 ? random.nextLong() : from(-5, random.nextBoolean() ? 3 : 1010);
                got = x.write(a, b, v); want = m.write(a, b, v);
                break;
            case 32:
                a = from(0, 3); b = from(0, 9); c = from(0, 9); d = from(0, 3);
                int t = from(0, 3);
                got = x.copy(a, b, t, c, d); want = m.copy(a, b, t, c, d);
                break;
            case 33: a = from(0, 3); b = campNumber(); got = x.lays(a, b); want = m.lays(a, b); break;
            case 34: a = from(0, 3); b = from(0, 11); got = x.costs(a, b); want = m.costs(a, b); break;
            case 35:
                a = from(0, 3);
                // Some of the numbers are made right, or none would ever be.
                int right = random.nextInt(10);
                for (int i = 0; i < right; i++) {
                    long spare = m.side(i % 8, 2);
                    x.write(a, i, spare);
                    m.write(a, i, spare);
                }
                got = x.read(a); want = m.read(a);
                break;
            case 36: got = x.image(); want = m.image(); break;
            case 37: got = x.undo(); want = m.undo(); break;
            case 38: got = x.tear(); want = m.tear(); break;
            case 39: a = from(0, 6); got = x.count(a); want = m.count(a); break;
            default: a = from(-1, 6); got = x.status(a); want = m.status(a); break;
        }
        Check.due("seed " + seed + ", act " + act + " of " + a + ", " + b + ", " + c + ", " + d, got, want);
        return got == want;
    }
}
