/** Boundary sentences of promises 1 to 9, and those of section 1 on a part by itself. */
public final class PartsEdgesTest {
    private static final int POLE = 1;
    private static final int BAND = 2;
    private static final int STONE = 3;
    private static final int FELT = 4;
    private static final int FLAP = 5;
    private static final int ROPE = 6;
    private static final int GOOD = 6;
    private static final int PUSHES = 7;
    private static final int HOLDS = 8;
    private static final int WARMS = 9;

    public static void main(String[] args) {
        calls();
        newObject();
        atMostTwenty();
        rangesOfPart();
        of();
        good();
        pushes();
        holds();
        warms();
        quotients();
        kindsUnderOthers();
        set();
        want();
        as();
        skyAtFirst();
        sky();
        draw();
        ageing();
        age();
        Edge.end();
    }

    private static FeltHouse one(int kind, int side, int strength, int weight) {
        FeltHouse x = new FeltHouse();
        x.part(kind, side, strength, weight);
        return x;
    }

    private static FeltHouse underSky(int kind, int strength, int what, int v) {
        FeltHouse x = one(kind, 0, strength, 0);
        x.sky(what, v);
        return x;
    }

    private static void calls() {
        Edge.saysOneSided("What it is", "An object is used for at most 512 calls after it has been made");
        FeltHouse x = new FeltHouse();
        for (int call = 1; call < 512; call++) {
            Edge.within("call " + call, x.cap(0), Check.BEYOND);
        }
        Edge.within("call 512", x.status(-1), 511);
        x = new FeltHouse();
        for (int call = 1; call < 512; call++) {
            Edge.within("image, call " + call, x.image(), 1);
        }
        Edge.within("undo, call 512", x.undo(), 0);
    }

    private static void newObject() {
        Edge.says("Promise 1", "No PARTS, BEASTS, CAMPS");
        FeltHouse x = new FeltHouse();
        Edge.within("parts", x.count(0), 0);
        Edge.within("of(0, 0)", x.of(0, 0), Check.BEYOND);
        Edge.within("beasts", x.count(2), 0);
        Edge.within("cap(0)", x.cap(0), Check.BEYOND);
        Edge.within("camps", x.count(3), 0);
        Edge.within("campOf(0, 12)", x.campOf(0, 12), Check.BEYOND);
        x.part(6, 0, 1, 0);
        x.beast(7);
        x.camp(8);
        Edge.past("of(0, 0)", x.of(0, 0), 6);
        Edge.past("cap(0)", x.cap(0), 7);
        Edge.past("campOf(0, 12)", x.campOf(0, 12), 8);

        Edge.says("Promise 1", "THE TAPE is empty");
        x = new FeltHouse();
        Edge.within("count(4)", x.count(4), 0);
        Edge.within("house()", x.house(), -1);
        Edge.within("wipe()", x.wipe(), 0);
        x.feed(' ', 1);
        Edge.past("count(4) behind a byte", x.count(4), 1);
        Edge.past("house() behind a byte", x.house(), -2);

        Edge.says("Promise 1", "no image is kept");
        x = new FeltHouse();
        Edge.within("undo()", x.undo(), Check.NONE);
        Edge.within("tear()", x.tear(), 0);
        x.image();
        Edge.past("undo() behind an image()", x.undo(), 0);
        Edge.past("tear() behind an image()", x.tear(), 1);
    }

    private static void atMostTwenty() {
        Edge.says("Terms", "PARTS 0, 1, .. (at most 20)");
        FeltHouse x = new FeltHouse();
        for (int p = 0; p < 20; p++) {
            Edge.within("part " + p, x.part(0, p % 8, p + 1, p), p);
        }
        Edge.past("a 21st", x.part(0, 0, 1, 0), Check.FULL);
        Edge.past("how many", x.count(0), 20);
        Edge.within("the 20th", x.of(19, 2), 20);
        Edge.past("of a 21st", x.of(20, 2), Check.BEYOND);

        Edge.says("Promise 2", "FULL.");
        x = new FeltHouse();
        for (int p = 0; p < 19; p++) {
            x.part(0, 0, 1, 0);
        }
        x.image();
        Edge.within("the 20th", x.part(0, 0, 1, 0), 19);
        Edge.past("the 21st", x.part(0, 0, 1, 0), Check.FULL);
        x.want(3, false);
        Edge.past("a wanting one makes no room", x.part(0, 0, 1, 0), Check.FULL);
        x.undo();
        Edge.within("a 20th where it was undone", x.part(0, 0, 1, 0), 19);
        Edge.past("and a 21st", x.part(0, 0, 1, 0), Check.FULL);
    }

    private static void rangesOfPart() {
        Edge.says("Promise 2", "BEYOND: kind, side, strength, weight");
        FeltHouse x = new FeltHouse();
        Edge.within("the least of all", x.part(0, 0, 1, 0), 0);
        Edge.within("the most of all", x.part(6, 7, 999, 99), 1);
        Edge.past("kind alone", x.part(7, 0, 1, 0), Check.BEYOND);
        Edge.past("side alone", x.part(0, 8, 1, 0), Check.BEYOND);
        Edge.past("strength alone", x.part(0, 0, 0, 0), Check.BEYOND);
        Edge.past("weight alone", x.part(0, 0, 1, 100), Check.BEYOND);
        Edge.past("how many came", x.count(0), 2);

        Edge.says("Terms", "KINDS: 0 PART, 1 POLE under PART");
        Edge.range("kind", 0, 6, v -> new FeltHouse().part(v, 0, 1, 0), v -> 0);
        Edge.range("kind", 0, 6, v -> one(v, 0, 1, 0).of(0, 0), v -> v);
        Edge.says("Terms", "each of a SIDE (0 to 7");
        Edge.range("side", 0, 7, v -> new FeltHouse().part(0, v, 1, 0), v -> 0);
        Edge.range("side", 0, 7, v -> one(0, v, 1, 0).of(0, 1), v -> v);
        Edge.says("Terms", "with a STRENGTH (1 to 999)");
        Edge.range("strength", 1, 999, v -> new FeltHouse().part(0, 0, v, 0), v -> 0);
        Edge.range("strength", 1, 999, v -> one(0, 0, v, 0).of(0, 2), v -> v);
        Edge.says("Terms", "a WEIGHT (0 to 99)");
        Edge.range("weight", 0, 99, v -> new FeltHouse().part(0, 0, 1, v), v -> 0);
        Edge.range("weight", 0, 99, v -> one(0, 0, 1, v).of(0, 3), v -> v);

        Edge.says("Terms", "a WEAR (0 to 99 hundredths; 0 at first)");
        Edge.within("wear at first", one(0, 0, 1, 0).of(0, 4), 0);
        x = one(0, 0, 1, 0);
        x.set(0, 4, 9);
        Edge.past("wear of one that was set", x.of(0, 4), 9);
        Edge.says("Terms", "there (at first) or WANTING");
        Edge.within("there at first", one(0, 0, 1, 0).of(0, 5), 1);
        x.want(0, false);
        Edge.past("one that is wanting", x.of(0, 5), 0);
    }

    private static void of() {
        Edge.says("Promise 3", "what 0 KIND, 1 SIDE, 2 STRENGTH, 3 WEIGHT, 4 WEAR, 5 1 if it is there, else 0, "
                + "6 GOOD, 7 PUSHES, 8 HOLDS, 9 WARMS. BEYOND");
        // A flap of good 50 with a wind of 20 from its side: each answer is another number.
        FeltHouse x = one(FLAP, 3, 100, 7);
        x.set(0, 4, 50);
        x.sky(0, 20);
        x.sky(1, 3);
        long[] due = {FLAP, 3, 100, 7, 50, 1, 50, 20, 5, 8};
        Edge.range("what", 0, 9, v -> x.of(0, v), v -> due[v]);
        x.want(0, false);
        long[] wanting = {FLAP, 3, 100, 7, 50, 0, 0, 0, 0, 0};
        Edge.range("of a wanting one, what", 0, 9, v -> x.of(0, v), v -> wanting[v]);

        Edge.says("Promise 3", "Of a PART");
        FeltHouse y = new FeltHouse();
        Edge.past("part 0 of none", y.of(0, 0), Check.BEYOND);
        for (int p = 0; p < 3; p++) {
            y.part(p, 0, 1, 0);
        }
        Edge.range("part", 0, 2, v -> y.of(v, 0), v -> v);
    }

    private static int goodOf(int strength, int wear) {
        FeltHouse x = one(0, 0, strength, 0);
        x.set(0, 4, wear);
        return x.of(0, GOOD);
    }

    private static void good() {
        Edge.says("Terms", "GOOD of a PART: STRENGTH times (100 less WEAR) by 100");
        Edge.within("the least", goodOf(1, 0), 1);
        Edge.past("the least, worn", goodOf(1, 1), 0);
        Edge.within("the most", goodOf(999, 0), 999);
        Edge.past("the most, worn by 1: cut", goodOf(999, 1), 989);
        Edge.within("100 worn by 99", goodOf(100, 99), 1);
        Edge.past("99 worn by 99: cut", goodOf(99, 99), 0);
        Edge.within("200 worn by 99", goodOf(200, 99), 2);
        Edge.past("199 worn by 99: cut", goodOf(199, 99), 1);

        Edge.says("Terms", "0 if it is WANTING");
        FeltHouse x = one(0, 0, 999, 0);
        Edge.within("there", x.of(0, GOOD), 999);
        x.want(0, false);
        Edge.past("wanting", x.of(0, GOOD), 0);
    }

    private static void pushes() {
        Edge.says("Terms", "POLE: its GOOD, and SNOW by 4, if its GOOD is above 0");
        Edge.within("no snow", underSky(POLE, 7, 3, 0).of(0, PUSHES), 7);
        Edge.within("snow 3: cut", underSky(POLE, 7, 3, 3).of(0, PUSHES), 7);
        Edge.past("snow 4", underSky(POLE, 7, 3, 4).of(0, PUSHES), 8);
        Edge.within("snow 99: cut", underSky(POLE, 7, 3, 99).of(0, PUSHES), 31);
        FeltHouse x = underSky(POLE, 1, 3, 99);
        Edge.within("good 1", x.of(0, PUSHES), 25);
        x.set(0, 4, 1);
        Edge.past("good 0", x.of(0, PUSHES), 0);
        x.set(0, 4, 0);
        x.want(0, false);
        Edge.past("wanting", x.of(0, PUSHES), 0);

        Edge.says("Terms", "WIND if FROM is its SIDE and it is there");
        for (int side = 0; side < 8; side++) {
            x = one(FLAP, side, 1, 0);
            x.sky(0, 99);
            x.sky(1, side);
            Edge.within("side " + side, x.of(0, PUSHES), 99);
            x.sky(1, (side + 1) % 8);
            Edge.past("side " + side + ", wind from the next", x.of(0, PUSHES), 0);
            x.sky(1, (side + 7) % 8);
            Edge.past("side " + side + ", wind from the one ahead", x.of(0, PUSHES), 0);
            x.sky(1, (side + 4) % 8);
            Edge.past("side " + side + ", wind from across", x.of(0, PUSHES), 0);
        }
        x = underSky(FLAP, 1, 0, 99);
        x.set(0, 4, 1);
        Edge.within("there with good 0", x.of(0, PUSHES), 99);
        x.want(0, false);
        Edge.past("wanting", x.of(0, PUSHES), 0);
        Edge.past("a felt", underSky(FELT, 1, 0, 99).of(0, PUSHES), 0);
    }

    private static int heldBy(int kind, int strength, int draw, int wet) {
        FeltHouse x = one(kind, 0, strength, 50);
        x.draw(draw);
        x.sky(2, wet);
        return x.of(0, HOLDS);
    }

    private static void holds() {
        Edge.says("Terms", "BAND: GOOD times DRAW by 20");
        Edge.within("draw 0", heldBy(BAND, 999, 0, 0), 0);
        Edge.within("good 1, draw 19: cut", heldBy(BAND, 1, 19, 0), 0);
        Edge.past("good 1, draw 20", heldBy(BAND, 1, 20, 0), 1);
        Edge.within("good 1, draw 39: cut", heldBy(BAND, 1, 39, 0), 1);
        Edge.past("good 1, draw 40", heldBy(BAND, 1, 40, 0), 2);
        Edge.within("the most", heldBy(BAND, 999, 99, 0), 4945);

        Edge.says("Terms", "less as many tenths of that as WET tells (WET times it by 10, cut)");
        Edge.within("dry", heldBy(ROPE, 10, 20, 0), 10);
        Edge.within("9 at wet 1: cut", heldBy(ROPE, 9, 20, 1), 9);
        Edge.past("10 at wet 1", heldBy(ROPE, 10, 20, 1), 9);
        Edge.within("1 at wet 9: cut", heldBy(ROPE, 1, 20, 9), 1);
        Edge.past("2 at wet 9", heldBy(ROPE, 2, 20, 9), 1);
        Edge.within("the most at wet 9", heldBy(ROPE, 999, 99, 9), 4945 - 4450);
        Edge.past("a band at wet 9", heldBy(BAND, 10, 20, 9), 10);

        Edge.says("Terms", "STONE: WEIGHT, if its GOOD is above 0");
        FeltHouse x = one(STONE, 0, 1, 99);
        Edge.within("good 1", x.of(0, HOLDS), 99);
        x.set(0, 3, 0);
        Edge.within("weight 0", x.of(0, HOLDS), 0);
        x.set(0, 3, 99);
        x.set(0, 4, 1);
        Edge.past("good 0", x.of(0, HOLDS), 0);
        x.set(0, 4, 0);
        x.want(0, false);
        Edge.past("wanting", x.of(0, HOLDS), 0);

        Edge.says("Terms", "FELT: a tenth of its GOOD");
        for (int kind = FELT; kind <= FLAP; kind++) {
            Edge.within("kind " + kind + ", 9: cut", heldBy(kind, 9, 20, 0), 0);
            Edge.past("kind " + kind + ", 10", heldBy(kind, 10, 20, 0), 1);
            Edge.within("kind " + kind + ", 999: cut", heldBy(kind, 999, 20, 9), 99);
        }
    }

    private static int warmedBy(int kind, int strength, int wet, int wind) {
        FeltHouse x = underSky(kind, strength, 2, wet);
        x.sky(0, wind);
        return x.of(0, WARMS);
    }

    private static void warms() {
        Edge.says("Terms", "FELT: GOOD by 5, half of that (cut) if WET is 5 or more");
        Edge.within("4: cut", warmedBy(FELT, 4, 0, 0), 0);
        Edge.past("5", warmedBy(FELT, 5, 0, 0), 1);
        Edge.within("15 at wet 4", warmedBy(FELT, 15, 4, 0), 3);
        Edge.past("15 at wet 5: cut", warmedBy(FELT, 15, 5, 0), 1);
        Edge.past("20 at wet 9", warmedBy(FELT, 20, 9, 0), 2);
        Edge.within("the most", warmedBy(FELT, 999, 4, 99), 199);
        Edge.past("the most, wet", warmedBy(FELT, 999, 5, 99), 99);

        Edge.says("Terms", "FLAP: as FELT, less WIND by 10 (0 at least)");
        Edge.within("wind 9: cut", warmedBy(FLAP, 10, 0, 9), 2);
        Edge.past("wind 10", warmedBy(FLAP, 10, 0, 10), 1);
        Edge.within("down to 0", warmedBy(FLAP, 10, 0, 20), 0);
        Edge.past("not below 0", warmedBy(FLAP, 10, 0, 30), 0);
        Edge.past("not below 0 in the most wind", warmedBy(FLAP, 1, 9, 99), 0);
        Edge.within("wet 4", warmedBy(FLAP, 30, 4, 10), 5);
        Edge.past("wet 5: halved ahead of the wind", warmedBy(FLAP, 30, 5, 10), 2);
        FeltHouse x = underSky(FLAP, 999, 0, 99);
        Edge.within("there", x.of(0, WARMS), 190);
        x.want(0, false);
        Edge.past("wanting", x.of(0, WARMS), 0);
    }

    /** Every quotient of section 1 on a part, one below a step and at it; the house's have their own tests. */
    private static void quotients() {
        Edge.says("Terms", "Quotients are cut");
        Edge.within("good: 199 hundredths", goodOf(199, 99), 1);
        Edge.past("good: 200 hundredths", goodOf(200, 99), 2);
        Edge.within("snow: 7 fourths", underSky(POLE, 1, 3, 7).of(0, PUSHES), 2);
        Edge.past("snow: 8 fourths", underSky(POLE, 1, 3, 8).of(0, PUSHES), 3);
        Edge.within("draw: 39 twentieths", heldBy(BAND, 3, 13, 0), 1);
        Edge.past("draw: 40 twentieths", heldBy(BAND, 4, 10, 0), 2);
        Edge.within("wet: 19 tenths less", heldBy(ROPE, 19, 20, 1), 18);
        Edge.past("wet: 20 tenths less", heldBy(ROPE, 20, 20, 1), 18);
        Edge.within("felt: 19 tenths", heldBy(FELT, 19, 20, 0), 1);
        Edge.past("felt: 20 tenths", heldBy(FELT, 20, 20, 0), 2);
        Edge.within("felt: 9 fifths", warmedBy(FELT, 9, 0, 0), 1);
        Edge.past("felt: 10 fifths", warmedBy(FELT, 10, 0, 0), 2);
        Edge.within("felt: 3 halves", warmedBy(FELT, 15, 5, 0), 1);
        Edge.past("felt: 4 halves", warmedBy(FELT, 20, 5, 0), 2);
        Edge.within("flap: 19 tenths of wind less", warmedBy(FLAP, 50, 0, 19), 9);
        Edge.past("flap: 20 tenths of wind less", warmedBy(FLAP, 50, 0, 20), 8);
    }

    private static void kindsUnderOthers() {
        Edge.says("Terms", "(A KIND that isn't named does as the one that it is under.)");
        FeltHouse x = new FeltHouse();
        for (int kind = 0; kind <= 6; kind++) {
            x.part(kind, 0, 100, 30);
        }
        x.sky(0, 20);
        x.sky(2, 1);
        long[] pushes = {0, 100, 0, 0, 0, 20, 0};
        long[] holds = {0, 0, 100, 30, 10, 10, 90};
        long[] warms = {0, 0, 0, 0, 20, 18, 0};
        for (int kind = 0; kind <= 6; kind++) {
            Edge.within("pushes of kind " + kind, x.of(kind, PUSHES), pushes[kind]);
            Edge.within("holds of kind " + kind, x.of(kind, HOLDS), holds[kind]);
            Edge.within("warms of kind " + kind, x.of(kind, WARMS), warms[kind]);
        }
        Edge.past("a flap, which is named, doesn't push as a felt", x.of(FLAP, PUSHES), 20);
        Edge.past("a rope, which is named, doesn't hold as a band", x.of(ROPE, HOLDS), 90);
    }

    private static int setOf(int part, int what, int v) {
        FeltHouse x = one(0, 0, 500, 50);
        int was = x.set(part, what, v);
        return was <= Check.BEYOND ? was : x.of(part, what);
    }

    private static void set() {
        Edge.says("Promise 4", "STRENGTH (what 2), WEIGHT (3), WEAR (4) of a PART becomes v");
        Edge.range("what", 2, 4, what -> setOf(0, what, 7), what -> 7);
        Edge.range("strength", 1, 999, v -> setOf(0, 2, v), v -> v);
        Edge.range("weight", 0, 99, v -> setOf(0, 3, v), v -> v);
        Edge.range("wear", 0, 99, v -> setOf(0, 4, v), v -> v);
        Edge.past("weight of 999, which a strength may be", setOf(0, 3, 999), Check.BEYOND);
        Edge.past("strength of 0, which a weight may be", setOf(0, 2, 0), Check.BEYOND);

        Edge.says("Promise 4", "of a PART becomes v: what it was. BEYOND");
        FeltHouse x = new FeltHouse();
        Edge.past("part 0 of none", x.set(0, 2, 1), Check.BEYOND);
        x.part(0, 0, 10, 0);
        x.part(0, 0, 11, 0);
        Edge.range("part", 0, 1, p -> x.set(p, 2, 10 + p), p -> 10 + p);
    }

    private static void want() {
        Edge.says("Promise 5", "1 if that is new, else 0");
        FeltHouse x = one(0, 0, 1, 0);
        Edge.past("there again", x.want(0, true), 0);
        Edge.within("wanting", x.want(0, false), 1);
        Edge.past("wanting again", x.want(0, false), 0);
        Edge.within("there", x.want(0, true), 1);
        Edge.past("there once more", x.want(0, true), 0);

        Edge.says("Promise 5", "A PART is there, or WANTING");
        x = one(0, 0, 5, 6);
        x.set(0, 4, 7);
        x.want(0, false);
        Edge.past("wanting", x.of(0, 5), 0);
        Edge.past("its weight stays", x.of(0, 3), 6);
        Edge.past("its wear stays", x.of(0, 4), 7);
        x.want(0, true);
        Edge.within("there", x.of(0, 5), 1);

        Edge.says("Promise 5", "BEYOND");
        for (boolean is : new boolean[] {false, true}) {
            FeltHouse y = new FeltHouse();
            Edge.past("part 0 of none", y.want(0, is), Check.BEYOND);
            for (int p = 0; p < 20; p++) {
                y.part(0, 0, 1, 0);
                y.want(p, !is);
            }
            Edge.range("part of 20", 0, 19, p -> y.want(p, is), p -> 1);
            Edge.within("all are so", y.count(1), is ? 20 : 0);
        }
    }

    private static void as() {
        Edge.says("Promise 6", "BEYOND: no such PART, kind");
        FeltHouse x = new FeltHouse();
        Edge.past("part 0 of none", x.as(0, 0), Check.BEYOND);
        x.part(0, 0, 30, 0);
        x.part(0, 0, 31, 0);
        Edge.range("part", 0, 1, p -> x.as(p, 0), p -> 30 + p);
        Edge.range("kind", 0, 6, kind -> x.as(0, kind), kind -> kind == 0 ? 30 : Check.KIND);

        Edge.says("Promise 6", "KIND: it isn't of that kind, nor of one under it");
        int[] above = {0, 0, 0, 0, 0, FELT, BAND};
        for (int own = 0; own <= 6; own++) {
            FeltHouse y = one(own, 0, 40, 0);
            Edge.within("kind " + own + " as its own", y.as(0, own), 40);
            Edge.within("kind " + own + " as the one above", y.as(0, above[own]), 40);
            Edge.within("kind " + own + " as a PART", y.as(0, 0), 40);
            for (int kind = 1; kind <= 6; kind++) {
                if (kind != own && kind != above[own]) {
                    Edge.past("kind " + own + " as " + kind, y.as(0, kind), Check.KIND);
                }
            }
        }
        Edge.past("a felt isn't a flap, which is under it", one(FELT, 0, 1, 0).as(0, FLAP), Check.KIND);
        Edge.past("a band isn't a rope, which is under it", one(BAND, 0, 1, 0).as(0, ROPE), Check.KIND);

        Edge.says("Promise 6", "A PART as one of a kind: its GOOD");
        FeltHouse z = one(ROPE, 0, 200, 0);
        z.set(0, 4, 99);
        Edge.within("worn", z.as(0, BAND), 2);
        z.want(0, false);
        Edge.past("wanting", z.as(0, BAND), 0);
        Edge.past("wanting, another kind", z.as(0, FELT), Check.KIND);
    }

    private static void skyAtFirst() {
        String[] words = {"WIND (what 0; 0 to 99, 0 at first)", "FROM (1: a SIDE, 0)", "WET (2; 0 to 9, 0)",
            "SNOW (3; 0 to 99, 0)", "COLD (4; 0 to 60, 20)"};
        int[] most = {99, 7, 9, 99, 60};
        int[] first = {0, 0, 0, 0, 20};
        for (int what = 0; what < 5; what++) {
            int asked = what;
            Edge.says("Terms", words[what]);
            FeltHouse x = new FeltHouse();
            Edge.within("at first", x.sky(what, 1), first[what]);
            Edge.past("then", x.sky(what, 0), 1);
            Edge.range("v", 0, most[what], v -> new FeltHouse().sky(asked, v), v -> first[asked]);
            Edge.range("v that it becomes", 0, most[what], v -> skyOf(asked, v), v -> v);
        }
    }

    private static int skyOf(int what, int v) {
        FeltHouse x = new FeltHouse();
        int was = x.sky(what, v);
        return was <= Check.BEYOND ? was : x.sky(what, 0);
    }

    private static void sky() {
        Edge.says("Promise 7", "Part what (0 to 4) of THE SKY becomes v: what it was. BEYOND");
        Edge.range("what", 0, 4, what -> skyOf(what, 7), what -> 7);
        Edge.past("from 8, which a wind may be", skyOf(1, 8), Check.BEYOND);
        Edge.past("cold 61, which a snow may be", skyOf(4, 61), Check.BEYOND);
        FeltHouse x = new FeltHouse();
        for (int what = 0; what < 5; what++) {
            x.sky(what, what + 1);
        }
        for (int what = 0; what < 5; what++) {
            Edge.within("each is its own: " + what, x.sky(what, 0), what + 1);
        }
    }

    private static int drawOf(int v) {
        FeltHouse x = new FeltHouse();
        int was = x.draw(v);
        return was <= Check.BEYOND ? was : x.count(6);
    }

    private static void draw() {
        Edge.says("Terms", "DRAW (0 to 99; 20 at first)");
        Edge.within("at first", new FeltHouse().draw(5), 20);
        Edge.range("v", 0, 99, PartsEdgesTest::drawOf, v -> v);
        Edge.says("Promise 8", "DRAW becomes v: what it was. BEYOND");
        FeltHouse x = new FeltHouse();
        Edge.within("the most", x.draw(99), 20);
        Edge.past("above", x.draw(100), Check.BEYOND);
        Edge.within("the least", x.draw(0), 99);
        Edge.past("below", x.draw(-1), Check.BEYOND);
        Edge.within("as it was", x.draw(1), 0);
    }

    /** Wear behind ageing once, or -1 less it if the part is wanting then. */
    private static int agedOnce(int wear, int wet) {
        FeltHouse x = one(0, 0, 1, 0);
        x.set(0, 4, wear);
        x.sky(2, wet);
        x.age(1);
        return x.of(0, 5) == 1 ? x.of(0, 4) : -1 - x.of(0, 4);
    }

    private static void ageing() {
        Edge.says("Terms", "AGE: each PART that is there has WEAR 1 more");
        FeltHouse x = one(0, 0, 1, 0);
        x.set(0, 4, 5);
        x.age(1);
        Edge.within("there", x.of(0, 4), 6);
        x.want(0, false);
        x.age(1);
        Edge.past("wanting", x.of(0, 4), 6);

        Edge.says("Terms", "2 more if WET is above 4");
        Edge.within("wet 0", agedOnce(0, 0), 1);
        Edge.within("wet 4", agedOnce(0, 4), 1);
        Edge.past("wet 5", agedOnce(0, 5), 2);
        Edge.past("wet 9", agedOnce(0, 9), 2);

        Edge.says("Terms", "(100 and more makes it WANTING, with a WEAR of 0)");
        Edge.within("98 and 1", agedOnce(98, 0), 99);
        Edge.past("99 and 1", agedOnce(99, 0), -1);
        Edge.within("97 and 2", agedOnce(97, 5), 99);
        Edge.past("98 and 2", agedOnce(98, 5), -1);
        Edge.past("99 and 2", agedOnce(99, 5), -1);
    }

    private static void age() {
        Edge.says("Promise 9", "AGE, n times (1 to 50)");
        Edge.range("n", 1, 50, n -> new FeltHouse().age(n), n -> 0);
        Edge.range("n of one worn by 49", 1, 50, n -> wornBy(49, n), n -> 49 + n);
        Edge.past("50 of one worn by 50", wornBy(50, 50), 0);

        Edge.says("Promise 9", "how many PARTS became WANTING");
        FeltHouse x = new FeltHouse();
        for (int p = 0; p < 20; p++) {
            x.part(0, 0, 1, 0);
            x.set(p, 4, p < 10 ? 49 : 99 - p);
        }
        x.want(0, false);
        // The last ten are worn by 89 to 80, so the first of them comes to 100 at the 11th time.
        Edge.within("ten times", x.age(10), 0);
        Edge.past("an 11th", x.age(1), 1);
        Edge.past("nine more", x.age(9), 9);
        Edge.within("30 more: those of 49 are at 99", x.age(30), 0);
        Edge.past("once more: all but the wanting one", x.age(1), 9);
        Edge.within("a wanting one doesn't become so again", x.age(50), 0);
        Edge.within("none is there", x.count(1), 0);
        Edge.within("its wear is as it was", x.of(0, 4), 49);
    }

    private static int wornBy(int wear, int n) {
        FeltHouse x = one(0, 0, 1, 0);
        x.set(0, 4, wear);
        int wanting = x.age(n);
        return wanting <= Check.BEYOND ? wanting : x.of(0, 4);
    }
}
