/** Promises 10 to 18: sides, standing, gust, span, the worst wind, warmth and fuel. */
public final class StandingTest {
    public static void main(String[] args) {
        side();
        stands();
        overdrawn();
        first();
        gust();
        canWant();
        span();
        worst();
        warmth();
        idle();
        Check.end();
    }

    /** Poles of strength 1 on sides 0, 2 and 4, and a stone of 10 on each side: it stands in calm. */
    private static FeltHouse stoneHouse() {
        FeltHouse x = new FeltHouse();
        x.part(1, 0, 1, 0);
        x.part(1, 2, 1, 0);
        x.part(1, 4, 1, 0);
        for (int side = 0; side < 8; side++) {
            x.part(3, side, 1, 10);
        }
        return x;
    }

    private static void side() {
        FeltHouse x = new FeltHouse();
        x.sky(0, 47);
        x.sky(1, 6);
        int[] strain = {11, 11, 47, 11, 11, 11, 23, 11};
        for (int side = 0; side < 8; side++) {
            Check.due("strain of side " + side, x.side(side, 0), strain[side]);
            Check.due("spare of side " + side, x.side(side, 2), -strain[side]);
        }
        x.part(3, 7, 1, 5);
        x.part(3, 1, 1, 6);
        x.part(3, 0, 1, 40);
        int[] hold = {45, 26, 3, 0, 0, 0, 2, 25};
        for (int side = 0; side < 8; side++) {
            Check.due("hold of side " + side, x.side(side, 1), hold[side]);
            Check.due("spare of side " + side, x.side(side, 2), hold[side] - strain[side]);
        }
        x.part(5, 6, 1, 0);
        Check.due("a flap in the wind strains its side", x.side(6, 0), 70);
        Check.due("side -1", x.side(-1, 0), Check.BEYOND);
        Check.due("side 8", x.side(8, 0), Check.BEYOND);
        Check.due("what -1", x.side(0, -1), Check.BEYOND);
        Check.due("what 3", x.side(0, 3), Check.BEYOND);
    }

    private static void stands() {
        FeltHouse x = stoneHouse();
        Check.due("a stone house", x.stands(), 1);
        x.want(0, false);
        Check.due("with poles on two sides", x.stands(), 0);
        x.part(1, 2, 1, 0);
        Check.due("with two poles on one of two sides", x.stands(), 0);
        x.part(1, 7, 1, 0);
        Check.due("with poles on three sides again", x.stands(), 1);
        x.set(1, 4, 1);
        Check.due("a pole without good beside a good one", x.stands(), 1);
        x.set(11, 4, 1);
        Check.due("no good pole on that side", x.stands(), 0);
        x.set(11, 4, 0);
        x.set(12, 2, 20);
        Check.due("a spare of 0", x.side(7, 2), 0);
        Check.due("it stands with a spare of 0", x.stands(), 1);
        x.set(12, 2, 21);
        Check.due("a spare of -1", x.side(7, 2), -1);
        Check.due("it doesn't stand with a spare of -1", x.stands(), 0);
    }

    private static void overdrawn() {
        FeltHouse x = stoneHouse();
        x.part(2, 0, 41, 0);
        x.part(6, 1, 60, 0);
        x.draw(40);
        Check.due("drawn as hard as may be", x.stands(), 1);
        x.draw(41);
        Check.due("the band is overdrawn", x.stands(), 0);
        x.want(11, false);
        Check.due("the band is wanting", x.stands(), 1);
        x.draw(50);
        Check.due("the rope drawn as hard as may be", x.stands(), 1);
        x.draw(51);
        Check.due("the rope is overdrawn", x.stands(), 0);
        x.draw(20);
        x.want(11, true);
        x.set(11, 2, 1);
        x.set(11, 4, 99);
        Check.due("a band without good at 20", x.stands(), 1);
        x.draw(21);
        Check.due("a band without good at 21", x.stands(), 0);
        x = new FeltHouse();
        x.part(2, 0, 1, 0);
        x.part(1, 0, 1, 0);
        x.part(1, 1, 1, 0);
        x.part(1, 7, 1, 0);
        x.part(3, 0, 1, 9);
        Check.due("with a band as part 0", x.stands(), 1);
        x.draw(21);
        Check.due("part 0 is overdrawn", x.stands(), 0);
    }

    private static void first() {
        FeltHouse x = new FeltHouse();
        Check.due("nothing", x.first(), 0);
        x.sky(0, 8);
        Check.due("the side across", x.first(), 4);
        x.sky(1, 5);
        Check.due("the side across from 5", x.first(), 1);
        x.part(3, 1, 1, 6);
        Check.due("the wind's own side", x.first(), 5);
        x.part(3, 5, 1, 20);
        Check.due("sides 1, 3 and 7 have -2: the least", x.first(), 1);
        x.part(3, 1, 1, 1);
        Check.due("sides 3 and 7 have -2: the least", x.first(), 3);
    }

    private static void gust() {
        FeltHouse x = new FeltHouse();
        Check.due("nothing falls in calm", x.gust(), 0);
        x = stoneHouse();
        Check.due("side 4 has 19", x.side(4, 2), 19);
        Check.due("gust", x.gust(), 20);
        Check.due("wind is as it was", x.sky(0, 0), 0);
        x.sky(1, 3);
        Check.due("gust from 3", x.gust(), 21);
        x.part(5, 3, 1, 0);
        x.sky(0, 99);
        Check.due("gust from 3 with a flap there", x.gust(), 14);
        Check.due("wind is as it was", x.sky(0, 0), 99);
        for (int side = 0; side < 8; side++) {
            x.part(3, side, 1, 99);
        }
        Check.due("it stands with all", x.gust(), Check.NONE);
        Check.due("NONE is counted", x.status(3), 1);
        FeltHouse edge = new FeltHouse();
        for (int side = 0; side < 8; side++) {
            edge.part(1, side, 1, 0);
            edge.part(3, side, 1, side == 4 ? 49 : 50);
        }
        Check.due("gust at the edge", edge.gust(), 99);
        edge.set(9, 3, 50);
        Check.due("it stands with 99", edge.gust(), Check.NONE);
        edge.sky(0, 99);
        Check.due("and with 99 itself", edge.stands(), 1);
    }

    private static void canWant() {
        FeltHouse x = stoneHouse();
        Check.due("every stone, no pole", x.canWant(), 0b11111111000);
        x.part(1, 6, 1, 0);
        Check.due("each of four poles", x.canWant(), 0b111111111111);
        x.want(11, false);
        Check.due("a wanting one isn't told", x.canWant(), 0b11111111000);
        x.sky(0, 19);
        Check.due("in a wind", x.canWant(), 0b11000111000);
        x.draw(21);
        x.part(2, 0, 1, 0);
        Check.due("only without the overdrawn band", x.canWant(), 1 << 12);
        Check.due("it doesn't stand", x.stands(), 0);
        Check.due("all are there as before", x.count(1), 12);
    }

    private static void span() {
        FeltHouse x = new FeltHouse();
        Check.due("nothing", x.span(0), Check.NONE);
        Check.due("what -1", x.span(-1), Check.BEYOND);
        Check.due("what 2", x.span(2), Check.BEYOND);
        x = stoneHouse();
        Check.due("without bands the least", x.span(0), 0);
        Check.due("without bands the greatest", x.span(1), 99);
        x.part(2, 0, 50, 0);
        Check.due("with a band the least", x.span(0), 0);
        Check.due("with a band the greatest", x.span(1), 45);
        x.part(1, 0, 99, 0);
        Check.due("against a pole the least", x.span(0), 32);
        Check.due("against a pole the greatest", x.span(1), 45);
        Check.due("draw is as it was", x.count(6), 20);
        x.set(12, 2, 150);
        Check.due("against a stronger pole", x.span(0), Check.NONE);
        Check.due("against a stronger pole, the greatest", x.span(1), Check.NONE);
        x.set(11, 2, 158);
        x.set(12, 2, 801);
        Check.due("with 99 alone, the least", x.span(0), 99);
        Check.due("with 99 alone, the greatest", x.span(1), 99);
        x.set(12, 2, 802);
        Check.due("not even with 99", x.span(0), Check.NONE);
    }

    private static void worst() {
        FeltHouse x = stoneHouse();
        Check.due("calm: of several the least", x.worst(), 0);
        x.sky(0, 30);
        x.sky(1, 3);
        Check.due("across from the poles", x.worst(), 0);
        x.want(2, false);
        Check.due("without pole 4", x.worst(), 4);
        x.part(5, 7, 1, 0);
        Check.due("from the flap's side", x.worst(), 7);
        Check.due("from is as it was", x.sky(1, 0), 3);
    }

    private static void warmth() {
        FeltHouse x = new FeltHouse();
        x.part(4, 0, 500, 0);
        x.part(5, 0, 499, 0);
        Check.due("warmth", x.warmth(0), 199);
        Check.due("fuel", x.warmth(1), 1);
        x.set(1, 2, 500);
        Check.due("warmth 200", x.warmth(0), 200);
        Check.due("no fuel", x.warmth(1), 0);
        x.sky(4, 22);
        Check.due("20 too few", x.warmth(1), 2);
        x.sky(4, 60);
        Check.due("400 too few", x.warmth(1), 21);
        x.sky(0, 29);
        Check.due("in a wind", x.warmth(0), 100 + 98 - 5);
        x.sky(3, 98);
        Check.due("in snow", x.warmth(0), 193 - 32);
        x.want(0, false);
        x.want(1, false);
        Check.due("below 0", x.warmth(0), -37);
        Check.due("its fuel", x.warmth(1), 32);
        Check.due("what -1", x.warmth(-1), Check.BEYOND);
        Check.due("what 2", x.warmth(2), Check.BEYOND);
    }

    private static void idle() {
        FeltHouse x = new FeltHouse();
        x.part(1, 0, 500, 0);
        x.part(4, 0, 95, 0);
        x.part(4, 0, 100, 0);
        x.part(5, 0, 5, 0);
        x.part(4, 0, 4, 0);
        Check.due("warmth 40", x.warmth(0), 40);
        Check.due("fuel 9", x.warmth(1), 9);
        Check.due("those that make no step of 20", x.idle(), 0b11011);
        x.part(4, 0, 5, 0);
        Check.due("warmth 41", x.warmth(0), 41);
        Check.due("a single one makes the step", x.idle(), 0b010001);
        x.want(0, false);
        Check.due("a wanting one isn't told", x.idle(), 0b010000);
        x.sky(4, 0);
        Check.due("no fuel at all", x.idle(), 0b111110);
    }
}
