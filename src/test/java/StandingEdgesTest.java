/** Boundary sentences of promises 10 to 18, and those of sections 1 and 3 on the whole house. */
public final class StandingEdgesTest {
    private static final int POLE = 1;
    private static final int BAND = 2;
    private static final int STONE = 3;
    private static final int FELT = 4;
    private static final int FLAP = 5;
    private static final int ROPE = 6;
    private static final int ALL_OF_16 = 0xffff;

    public static void main(String[] args) {
        across();
        strain();
        holdOfItsOwn();
        beside();
        side();
        noSpareBelowNought();
        polesOnThreeSides();
        overdrawn();
        first();
        gust();
        canWant();
        canWantAsASet();
        span();
        spanWhat();
        worst();
        warmth();
        fuel();
        warmthWhat();
        idle();
        Edge.end();
    }

    /**
     * A pole of 1 on each side (parts 0 to 7) and a stone of 50 (8 to 15): each side holds 100 and has
     * 99 to spare in calm, so that it stands in the most wind with nothing to spare.
     */
    private static FeltHouse house() {
        FeltHouse x = new FeltHouse();
        for (int side = 0; side < 8; side++) {
            x.part(POLE, side, 1, 0);
        }
        for (int side = 0; side < 8; side++) {
            x.part(STONE, side, 1, 50);
        }
        return x;
    }

    private static FeltHouse inWind(int wind, int from) {
        FeltHouse x = new FeltHouse();
        x.sky(0, wind);
        x.sky(1, from);
        return x;
    }

    private static void across() {
        Edge.says("Terms", "a SIDE is ACROSS from the one that is 4 more, by 8 the rest");
        for (int from = 0; from < 8; from++) {
            FeltHouse x = inWind(99, from);
            for (int more = 0; more < 8; more++) {
                int strain = x.side((from + more) % 8, 0);
                if (more == 4) {
                    Edge.within("from " + from + ", 4 more", strain, 99);
                } else {
                    Edge.past("from " + from + ", " + more + " more", strain, more == 0 ? 49 : 24);
                }
            }
        }
    }

    private static void strain() {
        Edge.says("Terms", "WIND, if it is ACROSS from FROM, WIND by 2 if it is FROM, WIND by 4 else");
        Edge.within("across, wind 0", inWind(0, 0).side(4, 0), 0);
        Edge.past("across, wind 1", inWind(1, 0).side(4, 0), 1);
        Edge.within("from, wind 1: cut", inWind(1, 0).side(0, 0), 0);
        Edge.past("from, wind 2", inWind(2, 0).side(0, 0), 1);
        Edge.within("else, wind 3: cut", inWind(3, 0).side(7, 0), 0);
        Edge.past("else, wind 4", inWind(4, 0).side(7, 0), 1);

        Edge.says("Terms", "STRAIN of a SIDE: all PUSHES of PARTS of it");
        FeltHouse x = new FeltHouse();
        for (int side = 0; side < 8; side++) {
            x.part(POLE, side, 1 << side, 0);
            x.part(POLE, side, 300, 0);
        }
        for (int side = 0; side < 8; side++) {
            Edge.within("side " + side, x.side(side, 0), (1 << side) + 300);
        }
        x.want(15, false);
        Edge.past("side 7 without its last", x.side(7, 0), 128);
        Edge.past("side 6 as it was", x.side(6, 0), 364);
    }

    private static void holdOfItsOwn() {
        Edge.says("Terms", "HOLD of a SIDE: all HOLDS of PARTS of it");
        FeltHouse x = new FeltHouse();
        x.part(STONE, 5, 1, 1);
        Edge.within("one, whole", x.side(5, 1), 1);
        x.part(FELT, 5, 20, 0);
        x.part(ROPE, 5, 4, 0);
        x.part(BAND, 5, 8, 0);
        x.part(FLAP, 5, 160, 0);
        Edge.within("five of them", x.side(5, 1), 1 + 2 + 4 + 8 + 16);
        x.want(4, false);
        Edge.past("without the last", x.side(5, 1), 15);
        x.want(0, false);
        Edge.past("without the first", x.side(5, 1), 14);
    }

    private static void beside() {
        Edge.says("Terms", "half (cut) of all HOLDS of PARTS of the two SIDES beside it (7 is beside 0)");
        for (int on = 0; on < 8; on++) {
            FeltHouse x = new FeltHouse();
            x.part(STONE, on, 1, 9);
            for (int more = 0; more < 8; more++) {
                int hold = x.side((on + more) % 8, 1);
                if (more == 0 || more == 1 || more == 7) {
                    Edge.within("a stone on " + on + ", hold of " + more + " more", hold, more == 0 ? 9 : 4);
                } else {
                    Edge.past("a stone on " + on + ", hold of " + more + " more", hold, 0);
                }
            }
        }
        FeltHouse x = new FeltHouse();
        x.part(STONE, 7, 1, 1);
        Edge.within("half of 1: cut", x.side(0, 1), 0);
        x.part(STONE, 1, 1, 1);
        Edge.past("half of 1 and 1 together", x.side(0, 1), 1);
        x.part(STONE, 1, 1, 1);
        Edge.within("half of 3: cut", x.side(0, 1), 1);
        x.part(STONE, 7, 1, 1);
        Edge.past("half of 4", x.side(0, 1), 2);
    }

    private static void side() {
        Edge.says("Promise 10", "Of a SIDE: what 0 STRAIN, 1 HOLD, 2 SPARE. BEYOND");
        FeltHouse x = new FeltHouse();
        for (int side = 0; side < 8; side++) {
            x.part(POLE, side, 10 + side, 0);
        }
        x.part(STONE, 3, 1, 40);
        long[] due = {13, 40, 27};
        Edge.range("what", 0, 2, what -> x.side(3, what), what -> due[what]);
        Edge.range("side", 0, 7, side -> x.side(side, 0), side -> 10 + side);

        Edge.says("Terms", "SPARE of a SIDE: HOLD less STRAIN");
        FeltHouse y = new FeltHouse();
        y.part(STONE, 0, 1, 5);
        y.part(POLE, 0, 5, 0);
        Edge.within("as much", y.side(0, 2), 0);
        y.set(1, 2, 6);
        Edge.past("one less", y.side(0, 2), -1);
        y.set(1, 2, 4);
        Edge.past("one more", y.side(0, 2), 1);
    }

    private static void noSpareBelowNought() {
        Edge.says("Terms", "THE HOUSE STANDS if no SPARE is below 0");
        for (int side = 0; side < 8; side++) {
            FeltHouse x = house();
            x.set(side, 2, 100);
            Edge.within("side " + side + " has 0 to spare", x.stands(), 1);
            x.set(side, 2, 101);
            Edge.past("side " + side + " lacks 1", x.stands(), 0);
        }
        FeltHouse x = house();
        x.sky(0, 99);
        Edge.within("0 to spare in the most wind", x.stands(), 1);
        x.sky(3, 3);
        Edge.within("snow 3 adds nothing", x.stands(), 1);
        x.sky(3, 4);
        Edge.past("snow 4 adds 1", x.stands(), 0);

        Edge.says("Promise 11", "1 if it STANDS, else 0");
        Edge.within("a house", house().stands(), 1);
        Edge.past("nothing", new FeltHouse().stands(), 0);
    }

    private static FeltHouse withPolesOn(int... sides) {
        FeltHouse x = new FeltHouse();
        for (int side = 0; side < 8; side++) {
            x.part(STONE, side, 1, 50);
        }
        for (int side : sides) {
            x.part(POLE, side, 1, 0);
        }
        return x;
    }

    private static void polesOnThreeSides() {
        Edge.says("Terms", "some POLE is there (GOOD above 0) on 3 SIDES or more");
        Edge.past("none", withPolesOn().stands(), 0);
        Edge.past("two sides", withPolesOn(0, 7).stands(), 0);
        Edge.past("three poles on two sides", withPolesOn(0, 7, 7).stands(), 0);
        Edge.within("three sides", withPolesOn(0, 7, 1).stands(), 1);
        Edge.within("three sides, the last ones", withPolesOn(5, 6, 7).stands(), 1);
        Edge.within("all sides", withPolesOn(0, 1, 2, 3, 4, 5, 6, 7).stands(), 1);
        FeltHouse x = withPolesOn(2, 3, 4);
        x.set(10, 4, 1);
        Edge.past("the third has good 0", x.stands(), 0);
        x.set(10, 2, 2);
        Edge.within("the third has good 1", x.stands(), 1);
        x.want(10, false);
        Edge.past("the third is wanting", x.stands(), 0);
        x = new FeltHouse();
        for (int side = 3; side <= 5; side++) {
            x.part(POLE, side, 1, 0);
        }
        for (int side = 0; side < 8; side++) {
            x.part(STONE, side, 1, 50);
        }
        Edge.within("the poles are parts 0 to 2", x.stands(), 1);
        x.want(0, false);
        Edge.past("part 0 is wanting", x.stands(), 0);
        for (int kind = 0; kind <= 6; kind++) {
            FeltHouse y = withPolesOn(0, 1);
            y.part(kind, 2, 10, 0);
            if (kind == POLE) {
                Edge.within("kind " + kind + " on the third side", y.stands(), 1);
            } else {
                Edge.past("kind " + kind + " on the third side", y.stands(), 0);
            }
        }
    }

    private static int standsDrawn(int kind, int strength, int draw) {
        FeltHouse x = house();
        x.part(kind, 0, strength, 0);
        x.draw(draw);
        return x.stands();
    }

    private static void overdrawn() {
        Edge.says("Terms", "DRAW is more than half of its GOOD (cut) and 20 together");
        for (int kind : new int[] {BAND, ROPE}) {
            Edge.within("kind " + kind + ", good 1 at 20", standsDrawn(kind, 1, 20), 1);
            Edge.past("kind " + kind + ", good 1 at 21: half is cut", standsDrawn(kind, 1, 21), 0);
            Edge.within("kind " + kind + ", good 2 at 21", standsDrawn(kind, 2, 21), 1);
            Edge.past("kind " + kind + ", good 2 at 22", standsDrawn(kind, 2, 22), 0);
            Edge.past("kind " + kind + ", good 157 at 99", standsDrawn(kind, 157, 99), 0);
            Edge.within("kind " + kind + ", good 158 at 99", standsDrawn(kind, 158, 99), 1);
        }

        Edge.says("Terms", "no BAND (nor one under that) that is there is OVERDRAWN");
        for (int kind = 0; kind <= 6; kind++) {
            if (kind == BAND || kind == ROPE) {
                Edge.past("kind " + kind + " drawn by 99", standsDrawn(kind, 10, 99), 0);
            } else {
                Edge.within("kind " + kind + " drawn by 99", standsDrawn(kind, 10, 99), 1);
            }
        }
        FeltHouse x = house();
        for (int p = 16; p < 20; p++) {
            x.part(p % 2 == 0 ? BAND : ROPE, 0, 158, 0);
        }
        x.draw(99);
        Edge.within("four, none of them", x.stands(), 1);
        for (int p = 16; p < 20; p++) {
            x.set(p, 2, 157);
            Edge.past("part " + p + " alone", x.stands(), 0);
            x.want(p, false);
            Edge.within("part " + p + " is wanting", x.stands(), 1);
            x.want(p, true);
            x.set(p, 2, 158);
        }
        bandAsTheFirstPart();
        x.set(16, 4, 99);
        x.set(16, 2, 1);
        x.draw(20);
        Edge.within("one that is there with good 0, at 20", x.stands(), 1);
        x.draw(21);
        Edge.past("one that is there with good 0, at 21", x.stands(), 0);
    }

    private static void bandAsTheFirstPart() {
        FeltHouse x = new FeltHouse();
        x.part(BAND, 0, 2, 0);
        for (int side = 0; side < 8; side++) {
            x.part(POLE, side, 1, 0);
            x.part(STONE, side, 1, 50);
        }
        x.draw(21);
        Edge.within("part 0 at 21", x.stands(), 1);
        x.draw(22);
        Edge.past("part 0 at 22", x.stands(), 0);
    }

    private static void first() {
        Edge.says("Terms", "FIRST: the SIDE with the least SPARE; of several the least");
        Edge.within("all sides alike", new FeltHouse().first(), 0);
        for (int side = 0; side < 8; side++) {
            FeltHouse x = house();
            x.set(side, 2, 2);
            Edge.within("side " + side + " alone", x.first(), side);
            x.set((side + 3) % 8, 2, 2);
            Edge.within("side " + side + " and the one that is 3 more", x.first(), Math.min(side, (side + 3) % 8));
            x.set((side + 3) % 8, 2, 3);
            Edge.past("side " + side + ", the one that is 3 more lacks more", x.first(), (side + 3) % 8);
        }
        Edge.says("Promise 12", "FIRST");
        FeltHouse x = new FeltHouse();
        x.part(POLE, 7, 1, 0);
        Edge.within("the last side, below 0", x.first(), 7);
        x.part(STONE, 7, 1, 1);
        Edge.past("the last side, at 0 as all", x.first(), 0);
        x.part(STONE, 0, 1, 1);
        Edge.past("the first side above 0", x.first(), 1);
    }

    private static void gust() {
        Edge.says("Terms", "GUST: the least WIND (0 to 99, FROM as it is) with which it doesn't STAND");
        for (int from = 0; from < 8; from++) {
            FeltHouse x = house();
            x.sky(1, from);
            int across = (from + 4) % 8;
            x.set(across, 2, 100);
            Edge.within("from " + from + ", 0 to spare across", x.gust(), 1);
            x.set(across, 2, 101);
            Edge.past("from " + from + ", lacking 1 across", x.gust(), 0);
            x.set(across, 2, 2);
            Edge.within("from " + from + ", 98 to spare across", x.gust(), 99);
            x.sky(1, (from + 1) % 8);
            Edge.past("98 to spare, but not across", x.gust(), Check.NONE);
        }
        Edge.past("nothing doesn't stand in calm", new FeltHouse().gust(), 0);
        FeltHouse x = house();
        x.set(4, 2, 2);
        x.sky(0, 99);
        Edge.within("the wind as it is isn't asked", x.gust(), 99);
        Edge.within("nor changed", x.sky(0, 0), 99);

        Edge.says("Promise 13", "GUST");
        Edge.within("99 is told", x.gust(), 99);
        x.set(4, 2, 1);
        Edge.past("100 isn't, though it wouldn't stand with it", x.gust(), Check.NONE);

        Edge.says("Promise 13", "NONE: it STANDS with all");
        x = house();
        Edge.within("99 to spare", x.gust(), Check.NONE);
        x.sky(0, 99);
        Edge.within("it stands with 99", x.stands(), 1);
        x.set(4, 2, 2);
        Edge.past("98 to spare", x.gust(), 99);
        Edge.past("it doesn't stand with 99", x.stands(), 0);
    }

    private static void canWant() {
        Edge.says("Terms", "CAN WANT: PARTS that are there, each of which alone could be WANTING, and it STANDS");
        FeltHouse x = house();
        Edge.within("each in calm", x.canWant(), ALL_OF_16);
        x.sky(0, 49);
        Edge.within("without the stone across 0 are to spare", x.canWant(), ALL_OF_16);
        x.sky(0, 50);
        Edge.past("without the stone across 1 is lacking", x.canWant(), ALL_OF_16 & ~(1 << 12));
        x.sky(0, 0);
        x.want(12, false);
        Edge.past("a wanting one isn't told", x.canWant(), ALL_OF_16 & ~(1 << 12));

        FeltHouse four = withPolesOn(1, 3, 5, 7);
        Edge.within("each of four poles", four.canWant(), 0xfff);
        four.want(8, false);
        Edge.past("none of three poles", four.canWant(), 0xff);
        four.want(9, false);
        Edge.past("poles on two sides", four.canWant(), 0);

        x = house();
        x.part(BAND, 0, 1, 0);
        x.draw(20);
        Edge.within("the band isn't overdrawn", x.canWant(), 0x1ffff);
        x.draw(21);
        Edge.past("it stands without the overdrawn band alone", x.canWant(), 1 << 16);
        x.part(BAND, 0, 1, 0);
        Edge.past("two overdrawn bands", x.canWant(), 0);
    }

    private static void canWantAsASet() {
        Edge.says("Promise 14", "CAN WANT, as a set");
        FeltHouse x = house();
        for (int p = 16; p < 20; p++) {
            x.part(0, 0, 1, 0);
        }
        Edge.within("all twenty", x.canWant(), 0xfffff);
        x.want(19, false);
        Edge.past("the last is wanting", x.canWant(), 0x7ffff);
        x.want(0, false);
        Edge.past("the first, too", x.canWant(), 0x7fffe);
        Edge.past("nothing", new FeltHouse().canWant(), 0);
        Edge.within("the others are as they were", x.count(1), 18);
    }

    /** A house with a band of 20, which holds as much as the draw, on side 0; its pole there is given. */
    private static FeltHouse banded(int pole, int band) {
        FeltHouse x = house();
        x.part(BAND, 0, band, 0);
        x.set(0, 2, pole);
        return x;
    }

    private static void span() {
        Edge.says("Terms", "SPAN: DRAWS (0 to 99) with which it STANDS: the least and the greatest");
        Edge.within("no band, the least", house().span(0), 0);
        Edge.within("no band, the greatest", house().span(1), 99);
        Edge.within("0 to spare, the least", banded(100, 20).span(0), 0);
        Edge.past("lacking 1, the least", banded(101, 20).span(0), 1);
        Edge.within("a band of 20, the greatest", banded(1, 20).span(1), 30);
        Edge.within("lacking 30, the least", banded(130, 20).span(0), 30);
        Edge.within("lacking 30, the greatest", banded(130, 20).span(1), 30);
        Edge.within("a band of 158, the greatest", banded(1, 158).span(1), 99);
        Edge.past("a band of 157, the greatest", banded(1, 157).span(1), 98);
        // 158 times 99 by 20 is 782; times 98 it is 774.
        Edge.within("lacking 782, the least", banded(882, 158).span(0), 99);
        Edge.within("lacking 774, the least", banded(874, 158).span(0), 98);
        FeltHouse x = banded(130, 20);
        x.draw(99);
        Edge.within("the draw as it is isn't asked", x.span(0), 30);
        Edge.within("nor changed", x.count(6), 99);

        Edge.says("Promise 15", "NONE: it STANDS with none");
        Edge.within("lacking 31, the least", banded(131, 20).span(0), Check.NONE);
        Edge.within("lacking 31, the greatest", banded(131, 20).span(1), Check.NONE);
        Edge.past("lacking 30", banded(130, 20).span(0), 30);
        Edge.within("lacking 783", banded(883, 158).span(0), Check.NONE);
        Edge.past("lacking 782", banded(882, 158).span(1), 99);
        // A band of 160 may be drawn by 100, and would hold 800 then; but 99 is the most.
        Edge.within("lacking 793 of 792 at 99, the least", banded(893, 160).span(0), Check.NONE);
        Edge.within("lacking 793 of 792 at 99, the greatest", banded(893, 160).span(1), Check.NONE);
        Edge.past("lacking 792 of 792 at 99", banded(892, 160).span(0), 99);
        Edge.within("nothing", new FeltHouse().span(1), Check.NONE);
    }

    private static void spanWhat() {
        Edge.says("Promise 15", "what 0 the least, 1 the greatest. BEYOND");
        FeltHouse x = banded(110, 20);
        Edge.range("what", 0, 1, x::span, what -> what == 0 ? 10 : 30);
    }

    private static void worst() {
        Edge.says("Promise 16", "The SIDE from which WIND as it is leaves the least SPARE on some SIDE; of several the least");
        for (int side = 0; side < 8; side++) {
            FeltHouse x = new FeltHouse();
            x.part(POLE, side, 1, 0);
            int across = (side + 4) % 8;
            Edge.past("a pole on " + side + " in calm", x.worst(), 0);
            x.sky(0, 1);
            x.sky(1, 3);
            Edge.within("a pole on " + side + " in a wind", x.worst(), across);
            x.part(POLE, (side + 3) % 8, 1, 0);
            Edge.within("another on the one that is 3 more", x.worst(), Math.min(across, (across + 3) % 8));
            Edge.within("from is as it was", x.sky(1, 0), 3);
        }
        FeltHouse x = new FeltHouse();
        x.part(FLAP, 5, 1, 0);
        x.sky(0, 1);
        Edge.past("a flap in wind 1 pushes as much as any wind across", x.worst(), 0);
        x.sky(0, 2);
        Edge.within("a flap in wind 2 pushes 1 more", x.worst(), 5);
        x.want(0, false);
        Edge.past("a wanting flap", x.worst(), 0);
    }

    private static int warmthIn(int wind, int snow) {
        FeltHouse x = new FeltHouse();
        x.sky(0, wind);
        x.sky(3, snow);
        return x.warmth(0);
    }

    private static void warmth() {
        Edge.says("Terms", "WARMTH: all WARMS, less WIND by 5 and less a third of SNOW (negative perhaps)");
        Edge.within("calm", warmthIn(0, 0), 0);
        Edge.within("wind 4: cut", warmthIn(4, 0), 0);
        Edge.past("wind 5", warmthIn(5, 0), -1);
        Edge.within("snow 2: cut", warmthIn(0, 2), 0);
        Edge.past("snow 3", warmthIn(0, 3), -1);
        Edge.within("each is cut by itself", warmthIn(4, 2), 0);
        Edge.past("the least", warmthIn(99, 99), -52);
        FeltHouse x = new FeltHouse();
        for (int p = 0; p < 20; p++) {
            x.part(FELT, p % 8, 999, 0);
        }
        Edge.within("the most", x.warmth(0), 20 * 199);
        x.want(19, false);
        Edge.past("the last is wanting", x.warmth(0), 19 * 199);
    }

    /** Fuel at a cold, with two felts of these strengths. */
    private static int fuelAt(int cold, int one, int other) {
        FeltHouse x = new FeltHouse();
        x.part(FELT, 0, one, 0);
        x.part(FELT, 0, other, 0);
        x.sky(4, cold);
        return x.warmth(1);
    }

    private static void fuel() {
        Edge.says("Terms", "by how much COLD times 10 is more than WARMTH, by 20, and 1; 0 if it isn't more");
        Edge.past("warmth 201 of 200", fuelAt(20, 505, 500), 0);
        Edge.past("warmth 200 of 200", fuelAt(20, 500, 500), 0);
        Edge.within("1 too few", fuelAt(20, 495, 500), 1);
        Edge.within("19 too few: cut", fuelAt(20, 405, 500), 1);
        Edge.within("20 too few", fuelAt(20, 400, 500), 2);
        Edge.within("39 too few: cut", fuelAt(20, 305, 500), 2);
        Edge.within("40 too few", fuelAt(20, 300, 500), 3);
        Edge.past("cold 0, warmth 0", fuelAt(0, 1, 1), 0);
        FeltHouse x = new FeltHouse();
        x.sky(4, 0);
        x.sky(0, 4);
        Edge.past("cold 0, warmth 0 in wind 4", x.warmth(1), 0);
        x.sky(0, 5);
        Edge.within("cold 0, warmth -1", x.warmth(1), 1);
        x.sky(0, 99);
        x.sky(3, 99);
        x.sky(4, 60);
        Edge.within("the most", x.warmth(1), 33);
    }

    private static void warmthWhat() {
        Edge.says("Promise 17", "What 0 WARMTH, 1 FUEL. BEYOND");
        FeltHouse x = new FeltHouse();
        x.part(FELT, 0, 50, 0);
        Edge.range("what", 0, 1, x::warmth, what -> 10);
        x.sky(4, 1);
        Edge.range("what at cold 1", 0, 1, x::warmth, what -> what == 0 ? 10 : 0);
    }

    private static void idle() {
        Edge.says("Promise 18", "The PARTS that are there without which (each alone) FUEL would be as it is, as a set");
        // Warmth 40 of 200: 160 is lacking, and 19 more would burn no more; parts 0 and 19 are those asked.
        FeltHouse x = new FeltHouse();
        x.part(FELT, 0, 95, 0);
        x.part(FELT, 0, 9, 0);
        for (int p = 2; p < 19; p++) {
            x.part(POLE, 0, 1, 0);
        }
        x.part(FELT, 0, 100, 0);
        Edge.within("without 19 it is the same, without 20 it isn't", x.idle(), 0x7ffff);
        x.set(0, 2, 100);
        x.set(19, 2, 95);
        Edge.past("the other way round", x.idle(), 0xffffe);
        x.want(19, false);
        Edge.past("a wanting one isn't told; at warmth 21 the 1 makes a step, too", x.idle(), 0x7fffc);
        Edge.within("the others are as they were", x.count(1), 19);

        FeltHouse warm = new FeltHouse();
        warm.part(FELT, 0, 999, 0);
        warm.part(FELT, 0, 10, 0);
        Edge.within("warmth 201 of 200", warm.warmth(0), 201);
        Edge.past("each is needed for no fuel", warm.idle(), 0);
        warm.part(FELT, 0, 5, 0);
        Edge.within("1 of 202 isn't", warm.idle(), 0b110);
        warm.set(2, 2, 15);
        Edge.past("3 of 204: without it 201, without the 2 it is 202", warm.idle(), 0b110);
        warm.set(1, 2, 4);
        Edge.past("3 of 202: without it 199", warm.idle(), 0b010);
        Edge.past("nothing", new FeltHouse().idle(), 0);
    }
}
