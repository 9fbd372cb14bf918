import java.util.function.Consumer;
import java.util.function.ToLongFunction;

/** What the document says of all findings: their numbers, their order, and that they change nothing. */
public final class FindingsEdgesTest {
    private static final String NOTHING = "one that answers a finding changes nothing but status()";
    private static final String ORDER = "Each act tells its findings in the order in which they are asked";

    public static void main(String[] args) {
        numbersOfFindings();
        orderOfPartsAndBeasts();
        orderOfCampsAndTape();
        orderOfSheets();
        orderOfLaysCostsRead();
        refusedPartActs();
        refusedSkyActs();
        refusedBeastActs();
        refusedCampActs();
        refusedTapeActs();
        refusedSheetActs();
        refusedCopies();
        refusedReaders();
        refusedImageActs();
        refusedWhenFull();
        setsByBits();
        Edge.end();
    }

    private static void numbersOfFindings() {
        Edge.says("Terms", "FINDINGS are answers below -1000000000: -1000000001 BEYOND, -1000000002 FULL, -1000000003 KIND, "
                + "-1000000004 NONE, -1000000005 STATE, -1000000006 MISSING, -1000000007 SIZE (in longs, too)");
        FeltHouse x = new FeltHouse();
        Edge.past("BEYOND", x.draw(-1), -1000000001L);
        for (int b = 0; b < 6; b++) {
            x.beast(1);
        }
        Edge.past("FULL", x.beast(1), -1000000002L);
        x.part(0, 0, 1, 0);
        Edge.past("KIND", x.as(0, 1), -1000000003L);
        Edge.past("NONE", x.undo(), -1000000004L);
        Edge.past("MISSING", x.read(0), -1000000006L);
        Edge.past("SIZE", x.sheet(0, 8, -1), -1000000007L);
        Edge.past("BEYOND in a long", x.write(4, 0, 0), -1000000001L);
        Edge.past("MISSING in a long", x.write(0, 0, 0), -1000000006L);
        Edge.within("the least answers of the house are above", x.house(), -1);
        x.sheet(0, 64, 1);
        x.write(0, 0, -1000000005L);
        Edge.within("a number that is written isn't one", x.write(0, 0, 0), -1000000005L);
        Edge.within("nor counted", x.status(4), 0);
    }

    private static FeltHouse laden(int parts) {
        FeltHouse x = new FeltHouse();
        for (int p = 0; p < parts; p++) {
            x.part(1, 0, 1, 9);
        }
        return x;
    }

    private static void orderOfPartsAndBeasts() {
        Edge.says("Terms", ORDER);
        FeltHouse full = laden(20);
        Edge.within("part: FULL alone", full.part(0, 0, 1, 0), Check.FULL);
        Edge.past("part: BEYOND ahead of it, kind", full.part(7, 0, 1, 0), Check.BEYOND);
        Edge.past("part: BEYOND ahead of it, side", full.part(0, 8, 1, 0), Check.BEYOND);
        Edge.past("part: BEYOND ahead of it, strength", full.part(0, 0, 0, 0), Check.BEYOND);
        Edge.past("part: BEYOND ahead of it, weight", full.part(0, 0, 1, 100), Check.BEYOND);
        Edge.within("as: KIND alone", full.as(0, 2), Check.KIND);
        Edge.past("as: BEYOND ahead of it", full.as(20, 2), Check.BEYOND);
        Edge.within("span: NONE alone", full.span(0), Check.NONE);
        Edge.past("span: BEYOND ahead of it", full.span(2), Check.BEYOND);
        Edge.within("beasts: NONE alone", full.beasts(0x3ff), Check.NONE);
        Edge.past("beasts: SIZE ahead of it", full.beasts(0x7ff), Check.SIZE);
        Edge.past("beasts: BEYOND ahead of both", full.beasts(0x1007ff), Check.BEYOND);
        Edge.within("even: SIZE alone", full.even(0x7ff, 0), Check.SIZE);
        Edge.past("even: BEYOND ahead of it, the set", full.even(0x1007ff, 0), Check.BEYOND);
        Edge.past("even: BEYOND ahead of it, what", full.even(0x7ff, 2), Check.BEYOND);
        full.want(0, false);
        Edge.past("beasts: a wanting one ahead of SIZE", full.beasts(0x7ff), Check.BEYOND);
        Edge.past("even: a wanting one ahead of SIZE", full.even(0x7ff, 0), Check.BEYOND);
        for (int b = 0; b < 6; b++) {
            full.beast(1);
        }
        Edge.within("beast: FULL alone", full.beast(1), Check.FULL);
        Edge.past("beast: BEYOND ahead of it", full.beast(0), Check.BEYOND);
    }

    private static void orderOfCampsAndTape() {
        Edge.says("Terms", ORDER);
        FeltHouse x = new FeltHouse();
        Edge.within("year: NONE alone", x.year(0, 1, 0), Check.NONE);
        Edge.past("year: BEYOND ahead of it, month", x.year(12, 1, 0), Check.BEYOND);
        Edge.past("year: BEYOND ahead of it, n", x.year(0, 25, 0), Check.BEYOND);
        Edge.past("year: BEYOND ahead of it, what", x.year(0, 1, 1), Check.BEYOND);
        Edge.within("moves: NONE alone", x.moves(0, 1), Check.NONE);
        Edge.past("moves: BEYOND ahead of it, month", x.moves(12, 1), Check.BEYOND);
        Edge.past("moves: BEYOND ahead of it, n", x.moves(0, 0), Check.BEYOND);
        for (int c = 0; c < 6; c++) {
            x.camp(0);
        }
        Edge.within("camp: FULL alone", x.camp(0), Check.FULL);
        Edge.past("camp: BEYOND ahead of it", x.camp(100), Check.BEYOND);
        for (int i = 0; i < 30; i++) {
            x.feed(0, 4);
        }
        Edge.within("feed: FULL alone", x.feed(0, 1), Check.FULL);
        Edge.past("feed: BEYOND ahead of it", x.feed(0, 0), Check.BEYOND);
    }

    private static void orderOfSheets() {
        Edge.says("Terms", ORDER);
        FeltHouse x = new FeltHouse();
        Edge.within("sheet: SIZE alone", x.sheet(0, 8, -1), Check.SIZE);
        Edge.past("sheet: BEYOND ahead of it, sheet", x.sheet(4, 8, -1), Check.BEYOND);
        Edge.past("sheet: BEYOND ahead of it, bits", x.sheet(0, 9, -1), Check.BEYOND);
        Edge.within("write: MISSING alone", x.write(0, 0, 0), Check.MISSING);
        Edge.within("write: MISSING ahead of no such number", x.write(0, -1, 0), Check.MISSING);
        Edge.past("write: no such sheet ahead of both", x.write(4, -1, 0), Check.BEYOND);
        x.sheet(0, 8, 1);
        x.sheet(1, 16, 1);
        Edge.within("copy: KIND alone", x.copy(0, 0, 1, 0, 1), Check.KIND);
        Edge.within("copy: KIND ahead of too many", x.copy(0, 0, 1, 0, 2), Check.KIND);
        Edge.within("copy: KIND ahead of n below 0", x.copy(0, 0, 1, 0, -1), Check.KIND);
        Edge.past("copy: MISSING ahead of all three, the first", x.copy(2, -1, 1, -1, -1), Check.MISSING);
        Edge.past("copy: MISSING ahead of all three, the second", x.copy(0, -1, 2, -1, -1), Check.MISSING);
        Edge.past("copy: no such sheet ahead of MISSING, the first", x.copy(4, 0, 2, 0, 0), Check.BEYOND);
        Edge.past("copy: no such sheet ahead of MISSING, the second", x.copy(2, 0, 4, 0, 0), Check.BEYOND);
        Edge.past("copy: no such sheet ahead of MISSING, -1", x.copy(2, 0, -1, 0, 0), Check.BEYOND);
    }

    private static void orderOfLaysCostsRead() {
        Edge.says("Terms", ORDER);
        FeltHouse x = new FeltHouse();
        Edge.within("lays: MISSING ahead of no such camp", x.lays(0, 0), Check.MISSING);
        Edge.past("lays: no such sheet ahead of both", x.lays(4, 0), Check.BEYOND);
        Edge.within("costs: MISSING ahead of no such month", x.costs(0, 12), Check.MISSING);
        Edge.past("costs: no such sheet ahead of both", x.costs(-1, 12), Check.BEYOND);
        Edge.past("read: no such sheet ahead of MISSING", x.read(4), Check.BEYOND);
        x.sheet(0, 8, 1);
        Edge.within("costs: KIND alone", x.costs(0, 0), Check.KIND);
        Edge.past("costs: no such month ahead of it", x.costs(0, 12), Check.BEYOND);
        Edge.past("lays: no such camp", x.lays(0, 0), Check.BEYOND);
    }

    /** Something of all, none of it as at first; an image of something else; two thirds of a text. */
    private static void made(FeltHouse x) {
        x.part(2, 7, 70, 9);
        x.image();
        x.part(1, 3, 20, 5);
        x.part(5, 0, 60, 7);
        x.want(1, false);
        x.set(2, 4, 98);
        x.sky(0, 44);
        x.sky(1, 5);
        x.sky(2, 6);
        x.sky(3, 33);
        x.sky(4, 22);
        x.draw(55);
        x.beast(12);
        x.beast(34);
        x.camp(8);
        x.camp(88);
        x.grass(0, 11, 111);
        x.grass(1, 0, 222);
        x.herd(0, 333);
        x.herd(1, 44);
        x.herd(2, 555);
        x.sheet(0, 8, 3);
        x.write(0, 0, 1);
        x.write(0, 2, -3);
        x.sheet(1, 16, 2);
        x.write(1, 1, 999);
        x.sheet(2, 8, 1);
        x.write(2, 0, 7);
        Check.feed(x, "stone 3 4,draw");
    }

    private static void refused(String call, ToLongFunction<FeltHouse> act, long finding) {
        Twin.refused(call, FindingsEdgesTest::made, act, finding);
    }

    private static void beyond(String call, ToLongFunction<FeltHouse> act) {
        refused(call, act, Check.BEYOND);
    }

    /** The same calls with inputs that may be change the house, so the twins would see a change. */
    private static void nothing(String call, ToLongFunction<FeltHouse> act, long due) {
        Edge.says("Terms", NOTHING);
        FeltHouse x = new FeltHouse();
        made(x);
        Edge.within(call, act.applyAsLong(x), due);
        Edge.within(call + ", no finding", x.status(-1), 0);
    }

    private static void refusedPartActs() {
        nothing("part(0, 0, 1, 0)", x -> x.part(0, 0, 1, 0), 3);
        beyond("part(7, 0, 1, 0)", x -> x.part(7, 0, 1, 0));
        beyond("part(0, 8, 1, 0)", x -> x.part(0, 8, 1, 0));
        beyond("part(0, 0, 1000, 0)", x -> x.part(0, 0, 1000, 0));
        beyond("part(0, 0, 1, 100)", x -> x.part(0, 0, 1, 100));
        beyond("of(3, 0)", x -> x.of(3, 0));
        beyond("of(0, 10)", x -> x.of(0, 10));
        beyond("set(3, 2, 5)", x -> x.set(3, 2, 5));
        beyond("set(0, 1, 5)", x -> x.set(0, 1, 5));
        beyond("set(0, 5, 5)", x -> x.set(0, 5, 5));
        beyond("set(0, 2, 1000)", x -> x.set(0, 2, 1000));
        beyond("set(0, 3, 100)", x -> x.set(0, 3, 100));
        beyond("set(0, 4, 100)", x -> x.set(0, 4, 100));
        beyond("want(3, true)", x -> x.want(3, true));
        beyond("want(-1, false)", x -> x.want(-1, false));
        beyond("as(3, 0)", x -> x.as(3, 0));
        beyond("as(0, 7)", x -> x.as(0, 7));
        refused("as(0, 6)", x -> x.as(0, 6), Check.KIND);
    }

    private static void refusedSkyActs() {
        nothing("sky(0, 99)", x -> x.sky(0, 99), 44);
        beyond("sky(0, 100)", x -> x.sky(0, 100));
        beyond("sky(1, 8)", x -> x.sky(1, 8));
        beyond("sky(2, 10)", x -> x.sky(2, 10));
        beyond("sky(3, 100)", x -> x.sky(3, 100));
        beyond("sky(4, 61)", x -> x.sky(4, 61));
        beyond("sky(5, 1)", x -> x.sky(5, 1));
        beyond("sky(-1, 1)", x -> x.sky(-1, 1));
        nothing("draw(99)", x -> x.draw(99), 55);
        beyond("draw(100)", x -> x.draw(100));
        beyond("draw(-1)", x -> x.draw(-1));
        nothing("age(1)", x -> x.age(1), 1);
        beyond("age(0)", x -> x.age(0));
        beyond("age(51)", x -> x.age(51));
        nothing("side(7, 2)", x -> x.side(7, 2), 192 - 11);
        beyond("side(8, 0)", x -> x.side(8, 0));
        beyond("side(0, 3)", x -> x.side(0, 3));
        refused("span(0)", x -> x.span(0), Check.NONE);
        beyond("span(2)", x -> x.span(2));
        beyond("warmth(2)", x -> x.warmth(2));
    }

    private static void refusedBeastActs() {
        nothing("beast(999)", x -> x.beast(999), 2);
        beyond("beast(1000)", x -> x.beast(1000));
        beyond("beast(0)", x -> x.beast(0));
        beyond("cap(2)", x -> x.cap(2));
        beyond("beasts(8)", x -> x.beasts(8));
        beyond("beasts(2)", x -> x.beasts(2));
        beyond("even(8, 0)", x -> x.even(8, 0));
        beyond("even(1, 2)", x -> x.even(1, 2));
        Twin.refused("beasts(1) without beasts", x -> x.part(0, 0, 1, 5), x -> x.beasts(1), Check.NONE);
        Twin.refused("beasts of eleven", FindingsEdgesTest::elevenParts, x -> x.beasts(0x7ff), Check.SIZE);
        Twin.refused("even of eleven", FindingsEdgesTest::elevenParts, x -> x.even(0x7ff, 1), Check.SIZE);
    }

    private static void elevenParts(FeltHouse x) {
        for (int p = 0; p < 11; p++) {
            x.part(0, 0, 1, p);
        }
    }

    private static void refusedCampActs() {
        nothing("camp(99)", x -> x.camp(99), 2);
        beyond("camp(100)", x -> x.camp(100));
        nothing("grass(1, 0, 999)", x -> x.grass(1, 0, 999), 222);
        beyond("grass(1, 0, 1000)", x -> x.grass(1, 0, 1000));
        beyond("grass(1, 12, 1)", x -> x.grass(1, 12, 1));
        beyond("grass(0, 12, 1)", x -> x.grass(0, 12, 1));
        beyond("grass(1, -1, 1)", x -> x.grass(1, -1, 1));
        beyond("grass(2, 0, 1)", x -> x.grass(2, 0, 1));
        beyond("campOf(2, 0)", x -> x.campOf(2, 0));
        beyond("campOf(0, 13)", x -> x.campOf(0, 13));
        nothing("herd(2, 999)", x -> x.herd(2, 999), 555);
        beyond("herd(0, 1000)", x -> x.herd(0, 1000));
        beyond("herd(1, 100)", x -> x.herd(1, 100));
        beyond("herd(2, 1000)", x -> x.herd(2, 1000));
        beyond("herd(3, 1)", x -> x.herd(3, 1));
        beyond("year(12, 1, 0)", x -> x.year(12, 1, 0));
        beyond("year(0, 25, 0)", x -> x.year(0, 25, 0));
        beyond("year(0, 5, 5)", x -> x.year(0, 5, 5));
        beyond("moves(12, 1)", x -> x.moves(12, 1));
        beyond("moves(0, 25)", x -> x.moves(0, 25));
        Twin.refused("year without camps", x -> x.beast(5), x -> x.year(0, 1, 0), Check.NONE);
        Twin.refused("moves without camps", x -> x.beast(5), x -> x.moves(0, 1), Check.NONE);
    }

    private static void refusedTapeActs() {
        nothing("feed(0x2037, 2), and house()", x -> 100 * x.feed(0x2037, 2) + x.house(), 1602);
        beyond("feed(0x2037, 0)", x -> x.feed(0x2037, 0));
        beyond("feed(0x2037, 5)", x -> x.feed(0x2037, 5));
        Consumer<FeltHouse> almostFull = x -> Check.feed(x, "draw 9" + " ".repeat(111) + "x");
        Twin.refused("feed of 3 to 118", almostFull, x -> x.feed(0x202020, 3), Check.FULL);
        Twin.refused("feed of 4 to 118", almostFull, x -> x.feed(0x20202020, 4), Check.FULL);
        Twin.refused("feed of 1 to 120", x -> Check.feed(x, "draw 9" + " ".repeat(114)), x -> x.feed('x', 1), Check.FULL);
    }

    private static void refusedSheetActs() {
        nothing("sheet(0, 8, 40)", x -> x.sheet(0, 8, 40), 40);
        beyond("sheet(4, 8, 1)", x -> x.sheet(4, 8, 1));
        beyond("sheet(-1, 8, 1)", x -> x.sheet(-1, 8, 1));
        beyond("sheet(0, 32, 1)", x -> x.sheet(0, 32, 1));
        beyond("sheet(0, 16, 41)", x -> x.sheet(0, 16, 41));
        beyond("sheet(0, 0, 41)", x -> x.sheet(0, 0, 41));
        refused("sheet(0, 16, -1)", x -> x.sheet(0, 16, -1), Check.SIZE);
        refused("sheet(0, 0, -1)", x -> x.sheet(0, 0, -1), Check.SIZE);
        refused("sheet(3, 8, -1)", x -> x.sheet(3, 8, -1), Check.SIZE);
        nothing("write(0, 2, 5)", x -> x.write(0, 2, 5), -3);
        beyond("write(0, 3, 5)", x -> x.write(0, 3, 5));
        beyond("write(0, -1, 5)", x -> x.write(0, -1, 5));
        beyond("write(4, 0, 5)", x -> x.write(4, 0, 5));
        refused("write(3, 0, 5)", x -> x.write(3, 0, 5), Check.MISSING);
    }

    private static void refusedCopies() {
        nothing("copy(0, 1, 0, 0, 2)", x -> x.copy(0, 1, 0, 0, 2), 2);
        beyond("copy(0, 1, 0, 0, 3)", x -> x.copy(0, 1, 0, 0, 3));
        beyond("copy(0, 0, 0, 2, 2)", x -> x.copy(0, 0, 0, 2, 2));
        beyond("copy(0, 0, 2, 0, 2)", x -> x.copy(0, 0, 2, 0, 2));
        beyond("copy(2, 0, 0, 0, 2)", x -> x.copy(2, 0, 0, 0, 2));
        beyond("copy(0, -1, 2, 0, 1)", x -> x.copy(0, -1, 2, 0, 1));
        beyond("copy(0, 0, 2, -1, 1)", x -> x.copy(0, 0, 2, -1, 1));
        beyond("copy(0, 0, 2, 0, -1)", x -> x.copy(0, 0, 2, 0, -1));
        beyond("copy(0, 0, 4, 0, 1)", x -> x.copy(0, 0, 4, 0, 1));
        refused("copy(0, 0, 1, 0, 1)", x -> x.copy(0, 0, 1, 0, 1), Check.KIND);
        refused("copy(0, 0, 3, 0, 1)", x -> x.copy(0, 0, 3, 0, 1), Check.MISSING);
    }

    private static void refusedReaders() {
        nothing("lays(1, 0)", x -> x.lays(1, 0), 2);
        beyond("lays(4, 0)", x -> x.lays(4, 0));
        beyond("lays(1, 2)", x -> x.lays(1, 2));
        beyond("lays(1, -1)", x -> x.lays(1, -1));
        refused("lays(3, 0)", x -> x.lays(3, 0), Check.MISSING);
        beyond("costs(4, 0)", x -> x.costs(4, 0));
        beyond("costs(0, 12)", x -> x.costs(0, 12));
        refused("costs(0, 0)", x -> x.costs(0, 0), Check.KIND);
        refused("costs(3, 0)", x -> x.costs(3, 0), Check.MISSING);
        beyond("read(4)", x -> x.read(4));
        refused("read(3)", x -> x.read(3), Check.MISSING);
    }

    private static void refusedImageActs() {
        nothing("undo()", x -> x.undo(), 1);
        Twin.refused("undo() without an image", x -> x.part(0, 0, 1, 5), x -> x.undo(), Check.NONE);
        beyond("count(7)", x -> x.count(7));
        beyond("status(7)", x -> x.status(7));
        beyond("status(-2)", x -> x.status(-2));
    }

    private static void full(FeltHouse x) {
        for (int p = 0; p < 20; p++) {
            x.part(p == 0 ? 1 : 3, p % 8, 1 + p, 99 - p);
        }
        for (int i = 0; i < 6; i++) {
            x.beast(10 + i);
            x.camp(20 + i);
        }
    }

    private static void refusedWhenFull() {
        Edge.says("Terms", NOTHING);
        FeltHouse x = new FeltHouse();
        full(x);
        Edge.within("as many as may be", x.status(-1), 0);
        Twin.refused("a 21st part", FindingsEdgesTest::full, y -> y.part(6, 6, 66, 66), Check.FULL);
        Twin.refused("a 7th beast", FindingsEdgesTest::full, y -> y.beast(66), Check.FULL);
        Twin.refused("a 7th camp", FindingsEdgesTest::full, y -> y.camp(66), Check.FULL);
        Twin.refused("gust() of one that stands with all", FindingsEdgesTest::strong, y -> y.gust(), Check.NONE);
    }

    private static void strong(FeltHouse x) {
        for (int side = 0; side < 8; side++) {
            x.part(1, side, 1, 0);
            x.part(3, side, 1, 50);
        }
    }

    private static void setsByBits() {
        Edge.says("Terms", "Sets are told by bits");
        FeltHouse x = laden(20);
        for (int p = 0; p < 20; p++) {
            Edge.within("part " + p + " alone", x.even(1 << p, 0), 9);
        }
        Edge.within("no part", x.even(0, 0), 0);
        Edge.past("bit 20", x.even(1 << 20, 0), Check.BEYOND);
        Edge.past("bit 31", x.even(1 << 31, 0), Check.BEYOND);
        Edge.within("all are idle", x.idle(), 0xfffff);
    }
}
